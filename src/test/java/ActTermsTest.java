import java.io.IOException;

/** The edges in the third of the document's terms: what is put, dropped, flushed, lost, and asked on paper. */
public final class ActTermsTest extends Edges {
    public static void main(String[] args) throws IOException {
        run(ActTermsTest.class, args);
    }

    private static final Acts NOTHING = x -> { };

    /** The i-th key of a slot. */
    private static int key(int slot, int i) {
        return Desk.keyAt(slot, i);
    }

    /** A bucket's keys, in order. */
    private static void keys(Desk x, int bucket, int... keys) {
        due("of(" + bucket + ", 3)", x.of(bucket, 3), keys.length);
        for (int i = 0; i < 3; i++) {
            due("of(" + bucket + ", " + (4 + i) + ")", x.of(bucket, 4 + i), i < keys.length ? keys[i] : -1);
        }
    }

    /** Writes from the i-th on: a bucket and how many keys it had, by twos. */
    private static void writes(Desk x, int from, int... bucketsAndMany) {
        for (int i = 0; i < bucketsAndMany.length; i += 2) {
            int at = from + i / 2;
            due("write(" + at + ", 0)", x.write(at, 0), bucketsAndMany[i]);
            due("write(" + at + ", 2)", x.write(at, 2), bucketsAndMany[i + 1]);
        }
        due("count(3)", x.count(3), from + bucketsAndMany.length / 2);
    }

    /**
     * Buckets 0 (prefix 0), 1 (01), 3 (11), with 2 not used: bucket 0 has three keys of slot 0, 1 three of slot 1,
     * 3 one of slot 3.
     */
    private static void hole(Desk x) {
        x.deepen(2);
        x.putThrees(1, 1);
        x.put(key(3, 0), 1);
        x.drop(key(2, 0));
    }

    @Says("To PUT a KEY that is there: it has this VALUE (the same one, too); its BUCKET is written.")
    static void aKeyThatIsThereIsWrittenWithTheSameValueToo() {
        Desk x = new Desk();
        x.puts(3, 5, 7);
        for (int value : new int[] {5, 5, 0, 99, 99}) {
            int waits = x.count(3);
            due("put(5, " + value + ")", x.put(5, value), 0);
            due("key(5, 1)", x.key(5, 1), value);
            writes(x, waits, 0, 3);
            due("TIME", x.count(14), waits + 1);
            keys(x, 0, 3, 5, 7);
        }
    }

    @Says("To PUT a KEY that is there")
    static void aKeyThatIsThereNeedsNoRoom() {
        Desk x = new Desk();
        x.deepen(6);
        due("put of a fourth at DEPTH 6", x.put(key(0, 3), 1), -5);
        due("put of one that is there", x.put(key(0, 2), 55), 0);
        due("key", x.key(key(0, 2), 1), 55);
        Desk y = new Desk();
        y.putThrees(0, 23);
        due("room()", y.room(), 0);
        for (int slot = 0; slot < 24; slot++) {
            due("put of one that is there", y.put(key(slot, 1), 66), 0);
        }
        due("count(2)", y.count(2), 72);
    }

    @Says("To PUT another one that is not BARRED")
    static void oneThatIsBarredIsNotPut() {
        Acts barred = x -> {
            x.under("bars if key = 192");
            x.puts(0, 64);
        };
        refused("put(192, 1)", barred, x -> x.put(192, 1), -3);
        Desk x = new Desk();
        x.puts(192);
        barred.on(x);
        due("put of one that is there", x.put(192, 5), 0);
        due("key(192, 1)", x.key(192, 1), 5);
        x.drop(192);
        due("put behind drop()", x.put(192, 5), -3);
    }

    @Says("while its BUCKET has 3 KEYS, that is SPLIT; then it comes into it, last, and that is written.")
    static void theThirdKeyAndTheFourth() {
        Desk x = new Desk();
        due("the first", x.put(6, 1), 0);
        due("the second", x.put(4, 1), 0);
        due("the third", x.put(8, 1), 0);
        keys(x, 0, 6, 4, 8);
        writes(x, 0, 0, 1, 0, 2, 0, 3);
        due("the fourth", x.put(1, 1), 1);
        writes(x, 3, 1, 0, 0, 3, 1, 1);
        keys(x, 0, 6, 4, 8);
        keys(x, 1, 1);
        due("one into a bucket of two", x.put(3, 1), 0);
        due("one into a bucket of three", x.put(5, 1), 0);
        keys(x, 1, 1, 3, 5);
    }

    @Says("while its BUCKET has 3 KEYS, that is SPLIT")
    static void splitAsOftenAsItMust() {
        for (int deep = 1; deep <= 6; deep++) {
            Desk x = new Desk();
            x.putThrees(0, 0);
            due("put of one that differs by sign " + (deep - 1), x.put(key(1 << deep - 1, 0), 1), deep);
            due("DEEP", x.count(0), deep);
            due("USED", x.count(1), deep + 1);
            due("WRITES", x.count(3), 3 + 2 * deep + 1);
            keys(x, 0, key(0, 0), key(0, 1), key(0, 2));
            keys(x, deep, key(1 << deep - 1, 0));
            due("the write of the last one born", x.write(3 + 2 * deep - 2, 0), deep);
            due("the last write", x.write(3 + 2 * deep, 0), deep);
        }
    }

    @Says("(at 6, or if all 24 are USED, there is no room: then nothing at all is done by the PUT)")
    static void noRoomAtDepth6() {
        refused("a fourth in a bucket of DEPTH 6", x -> x.deepen(6), x -> x.put(key(0, 3), 1), -5);
        refused("a fourth by six splits from DEPTH 0", x -> x.putThrees(0, 0), x -> x.put(key(0, 3), 1), -5);
        refused("a fourth by one split from DEPTH 5", x -> x.deepen(5), x -> x.put(key(0, 3), 1), -5);
        refused("a fourth of slot 63", x -> x.putThrees(63, 63), x -> x.put(key(63, 3), 1), -5);
        refused("in a rich file", x -> {
            rich(x);
            x.put(128, 1);
        }, x -> x.put(192, 1), -5);
        Desk x = new Desk();
        x.deepen(6);
        due("the second of slot 32", x.put(key(32, 1), 1), 0);
        due("the third of slot 32", x.put(key(32, 2), 1), 0);
        due("the fourth of slot 32", x.put(key(32, 3), 1), -5);
        x.drop(key(32, 0));
        due("the fourth behind a drop", x.put(key(32, 3), 1), 0);
    }

    @Says("if all 24 are USED, there is no room")
    static void noRoomWith24Buckets() {
        refused("one split with 24", x -> x.putThrees(0, 23), x -> x.put(key(24, 0), 1), -5);
        refused("one split with 24, by the deepest", x -> x.putThrees(0, 23), x -> x.put(key(32, 0), 1), -5);
        refused("two splits with 23", x -> x.putThrees(0, 22), x -> x.put(key(39, 0), 1), -5);
        Desk x = new Desk();
        x.putThrees(0, 22);
        due("USED", x.count(1), 23);
        due("one split with 23", x.put(key(23, 0), 1), 1);
        due("USED", x.count(1), 24);
        Desk y = new Desk();
        y.putThrees(0, 21);
        due("USED", y.count(1), 22);
        due("two splits with 22", y.put(key(39, 0), 1), 2);
        due("USED", y.count(1), 24);
        Desk z = new Desk();
        z.putThrees(0, 23);
        z.drop(key(8, 1));
        due("no split with 24", z.put(key(24, 0), 1), 0);
        due("USED", z.count(1), 24);
    }

    @Says("if d is DEEP, DEEP is one more")
    static void deepGrowsOnlyByTheDeepest() {
        Desk x = new Desk();
        x.deepen(2);
        due("DEEP", x.count(0), 2);
        x.putThrees(1, 1);
        due("a split at DEPTH 1 of DEEP 2", x.put(key(3, 0), 1), 1);
        due("DEEP stays", x.count(0), 2);
        due("slot(3)", x.slot(3), 3);
        due("slot(4)", x.slot(4), -1);
        due("a split at DEPTH 2", x.put(key(5, 0), 1), 1);
        due("DEEP is one more", x.count(0), 3);
        due("slot(5)", x.slot(5), 4);
        due("slot(7): one of a lesser DEPTH", x.slot(7), 3);
    }

    @Says("the lowest BUCKET that is not USED is so, DEPTH d and 1, PREFIX that of the one and 2 to the d")
    static void theLowestBucketThatIsNotUsed() {
        Desk x = new Desk();
        hole(x);
        due("of(2, 0)", x.of(2, 0), 0);
        due("of(3, 0)", x.of(3, 0), 1);
        x.put(key(3, 1), 1);
        x.put(key(3, 2), 1);
        due("put", x.put(key(7, 0), 1), 1);
        due("of(2, 0)", x.of(2, 0), 1);
        due("of(2, 1)", x.of(2, 1), 3);
        due("of(2, 2)", x.of(2, 2), 7);
        due("of(3, 1)", x.of(3, 1), 3);
        due("of(3, 2)", x.of(3, 2), 3);
        due("of(4, 0)", x.of(4, 0), 0);
        due("the next", x.put(key(5, 0), 1), 1);
        due("of(4, 0)", x.of(4, 0), 1);
        due("of(4, 2)", x.of(4, 2), 5);
        Desk y = new Desk();
        y.putThrees(0, 23);
        due("the last BUCKET is used last", y.of(23, 0), 1);
    }

    @Says("all KEYS of which bit d of the HASH is 1 come into it, in their order; the one has DEPTH d and 1")
    static void keysThatComeIntoTheNewOne() {
        Desk x = new Desk();
        x.puts(3, 2, 5, 1);
        keys(x, 0, 2);
        keys(x, 1, 3, 5, 1);
        Desk y = new Desk();
        y.puts(3, 7, 5, 2);
        keys(y, 0, 2);
        keys(y, 1, 3, 7, 5);
        due("of(0, 1)", y.of(0, 1), 1);
        Desk z = new Desk();
        z.puts(4, 8, 6, 7);
        keys(z, 0, 4, 8, 6);
        keys(z, 1, 7);
        Desk w = new Desk();
        w.put(5, 50);
        w.put(4, 40);
        w.put(3, 30);
        w.put(2, 20);
        due("the values go along: of(1, 7)", w.of(1, 7), 50);
        due("of(1, 8)", w.of(1, 8), 30);
        due("of(0, 7)", w.of(0, 7), 40);
        due("of(0, 8)", w.of(0, 8), 20);
    }

    @Says("then the new one is written, then the old one.")
    static void theNewOneIsWrittenAheadOfTheOld() {
        Desk x = new Desk();
        x.puts(3, 2, 5, 1);
        writes(x, 0, 0, 1, 0, 2, 0, 3, 1, 2, 0, 1, 1, 3);
        due("behind(4, 2): between the two", x.behind(4, 2), 2);
        due("lost(4)", x.lost(4), 1);
        Desk y = new Desk();
        y.under("costs 10*depth+many");
        y.puts(3, 2, 5, 1);
        due("both have changed ahead of the first: write(3, 1)", y.write(3, 1), 12);
        due("write(4, 1)", y.write(4, 1), 11);
    }

    @Says("To DROP a KEY: it leaves; its BUCKET is written")
    static void theOnlyKeyAndTheLastBucket() {
        Desk x = new Desk();
        x.put(7, 1);
        due("drop(7)", x.drop(7), 0);
        due("of(0, 0)", x.of(0, 0), 1);
        keys(x, 0);
        writes(x, 0, 0, 1, 0, 0);
        due("DEEP", x.count(0), 0);
        refused("drop of one that left", y -> {
            rich(y);
            y.drop(64);
        }, y -> y.drop(64), -3);
        Desk y = new Desk();
        y.puts(3, 5, 7);
        due("drop of the middle one", y.drop(5), 0);
        keys(y, 0, 3, 7);
        due("of(0, 8)", y.of(0, 8), 7);
        y.puts(5);
        due("drop of the first", y.drop(3), 0);
        keys(y, 0, 7, 5);
        due("drop of the last", y.drop(5), 0);
        keys(y, 0, 7);
        due("of(0, 7)", y.of(0, 7), 7);
        due("of(0, 8)", y.of(0, 8), -1);
    }

    @Says("and both have 3 KEYS at most together, they are JOINED")
    static void threeKeysTogetherAndFour() {
        Desk x = new Desk();
        x.puts(0, 2, 4, 1, 3);
        due("drop: four are left in both", x.drop(4), 0);
        due("USED", x.count(1), 2);
        due("drop: three are left in both", x.drop(3), 1);
        due("USED", x.count(1), 1);
        keys(x, 0, 0, 2, 1);
        Desk y = new Desk();
        y.puts(0, 2, 4, 1);
        due("drop: three and none", y.drop(1), 1);
        keys(y, 0, 0, 2, 4);
        Desk z = new Desk();
        z.puts(1, 3, 5, 0);
        due("drop: none and three", z.drop(0), 1);
        keys(z, 0, 1, 3, 5);
        // three and one are not joined by a PUT or a FLUSH alone
        Desk w = new Desk();
        w.puts(0, 2, 4, 1);
        w.crash(5);
        due("three keys in both behind a crash", w.count(2), 3);
        due("USED", w.count(1), 2);
    }

    @Says("and both have 3 KEYS at most together, they are JOINED")
    static void twoKeysTogetherAndNone() {
        Desk x = new Desk();
        x.puts(0, 1, 2, 4);
        x.crash(5);
        due("drop: two are left in both", x.drop(1), 1);
        keys(x, 0, 0, 2);
        due("count(2)", x.count(2), 2);
        due("USED", x.count(1), 1);
        // by another SALT both are empty behind a crash
        Desk y = new Desk();
        y.puts(0, 2, 4, 1);
        y.flush(6);
        for (int k : new int[] {1, 4, 2, 0}) {
            y.drop(k);
        }
        y.terms(3, 1);
        y.crash(0);
        due("USED", y.count(1), 2);
        due("put", y.put(500, 1), 0);
        due("USED: a PUT joins none", y.count(1), 2);
        due("drop: none is left in both", y.drop(500), 1);
        due("USED", y.count(1), 1);
        keys(y, 0);
        due("DEEP", y.count(0), 0);
        due("room()", y.room(), 3);
    }

    @Says("To DROP a KEY: it leaves")
    static void keysOfTheLastBucketOfAFullFile() {
        Desk x = new Desk();
        x.putThrees(0, 23);
        for (int i = 0; i < 3; i++) {
            for (int j = 0; j < 3; j++) {
                int[] key = {x.of(23, 4), x.of(23, 5), x.of(23, 6)};
                int value = x.of(23, 7);
                due("drop", x.drop(key[j]), 0);
                keys(x, 23, key[j == 0 ? 1 : 0], key[j == 2 ? 1 : 2]);
                due("count(2)", x.count(2), 71);
                due("put", x.put(key[j], value), 0);
                keys(x, 23, key[j == 0 ? 1 : 0], key[j == 2 ? 1 : 2], key[j]);
            }
        }
    }

    @Says("(DEPTH d above 0: a BUCKET of the same DEPTH the PREFIX of which differs in bit d less 1 alone)")
    static void noTwinAtDepth0NorOfAnotherDepth() {
        none("twin(0) at DEPTH 0", NOTHING, x -> x.twin(0));
        Acts deep = x -> x.deepen(3);
        asked("twin(0)", deep, x -> x.twin(0), 3);
        asked("twin(3)", deep, x -> x.twin(3), 0);
        none("twin(1): the other half is deeper", deep, x -> x.twin(1));
        none("twin(2): the other half is deeper", deep, x -> x.twin(2));
        none("twin(4): not USED", deep, x -> x.twin(4));
        Desk x = new Desk();
        x.deepen(3);
        x.put(key(1, 0), 1);
        due("drop: no TWIN, no join", x.drop(key(1, 0)), 0);
        due("USED", x.count(1), 4);
        Desk y = new Desk();
        y.deepen(2);
        y.putThrees(1, 1);
        y.put(key(3, 0), 1);
        due("twin of 00 is 10", y.twin(0), 2);
        due("twin of 01 is 11", y.twin(1), 3);
        due("twin of 11 is 01", y.twin(3), 1);
    }

    @Says("the one of the lower PREFIX has DEPTH one less, the other one's KEYS behind its own, the other one is not "
        + "USED; the one is written, then the other one")
    static void theLowerPrefixNotTheLowerNumber() {
        Desk x = new Desk();
        hole(x);
        x.put(key(3, 1), 1);
        x.put(key(3, 2), 1);
        x.put(key(7, 0), 1);
        due("twin(2)", x.twin(2), 3);
        x.flush(x.count(3));
        due("drop", x.drop(key(7, 0)), 1);
        due("of(2, 0)", x.of(2, 0), 0);
        due("of(3, 1)", x.of(3, 1), 2);
        due("of(3, 2)", x.of(3, 2), 3);
        keys(x, 3, key(3, 0), key(3, 1), key(3, 2));
        writes(x, 0, 2, 0, 3, 3, 2, -1);
        Desk y = new Desk();
        y.put(1, 10);
        y.put(3, 30);
        y.put(2, 20);
        y.put(5, 50);
        y.drop(1);
        keys(y, 0, 2, 3, 5);
        due("of(0, 7)", y.of(0, 7), 20);
        due("of(0, 8)", y.of(0, 8), 30);
        due("of(0, 9)", y.of(0, 9), 50);
    }

    @Says("the one is asked on.")
    static void joinedOnToTheLast() {
        for (int deep = 1; deep <= 6; deep++) {
            Desk x = new Desk();
            x.deepen(deep);
            int waits = x.count(3);
            due("drop", x.drop(key(1 << deep - 1, 0)), deep);
            due("DEEP", x.count(0), 0);
            due("USED", x.count(1), 1);
            due("WRITES", x.count(3), waits + 1 + 2 * deep);
            due("the bucket it left is written", x.write(waits, 0), deep);
            for (int i = 0; i < deep; i++) {
                due("the one", x.write(waits + 1 + 2 * i, 0), 0);
                due("the other one", x.write(waits + 2 + 2 * i, 0), deep - i);
                due("not USED", x.write(waits + 2 + 2 * i, 2), -1);
            }
        }
        Desk x = new Desk();
        x.deepen(6);
        x.putThrees(1, 1);
        due("drop: the last join would have six", x.drop(key(32, 0)), 5);
        due("DEEP", x.count(0), 1);
        due("of(0, 1)", x.of(0, 1), 1);
    }

    @Says("While no BUCKET has DEPTH DEEP, DEEP (above 0) is one less.")
    static void deepIsLessAsSoonAsItCanBe() {
        Desk x = new Desk();
        x.deepen(2);
        x.putThrees(1, 1);
        x.put(key(3, 0), 1);
        due("drop: another one has DEPTH 2", x.drop(key(2, 0)), 1);
        due("DEEP stays", x.count(0), 2);
        due("drop", x.drop(key(3, 0)), 1);
        due("no other one has", x.count(0), 1);
        due("slot(2)", x.slot(2), -1);
        due("drop: three are left in both", x.drop(key(1, 0)), 0);
        x.drop(key(0, 0));
        due("drop", x.drop(key(0, 1)), 1);
        due("DEEP 0", x.count(0), 0);
        x.drop(key(0, 2));
        x.drop(key(1, 1));
        due("drop of the last key", x.drop(key(1, 2)), 0);
        due("DEEP is not below 0", x.count(0), 0);
    }

    @Says("and the TIME is one more (999 stays).")
    static void timeStaysAt999() {
        Desk x = new Desk();
        x.terms(0, 997);
        x.put(1, 1);
        due("TIME", x.count(14), 998);
        x.put(1, 1);
        due("TIME", x.count(14), 999);
        x.put(1, 1);
        due("TIME stays", x.count(14), 999);
        x.drop(1);
        due("TIME stays", x.count(14), 999);
        x.undo();
        x.undo();
        x.undo();
        due("TIME is as it was", x.count(14), 998);
        Desk y = new Desk();
        y.putThrees(0, 0);
        y.terms(0, 990);
        y.put(32, 1);
        due("thirteen more", y.count(14), 999);
        y.undo();
        due("TIME is as it was", y.count(14), 990);
        y.terms(0, 985);
        y.put(32, 1);
        due("thirteen more", y.count(14), 998);
        y.flush(3);
        y.crash(3);
        due("flush(), crash() take none", y.count(14), 998);
    }

    @Says("(what it COSTS is asked as all is then, behind the change)")
    static void whatItCostsIsAskedBehindTheChange() {
        Desk x = new Desk();
        x.under("costs many*10+depth");
        x.put(0, 1);
        due("with the key", x.write(0, 1), 10);
        x.puts(1, 2);
        x.drop(1);
        due("without the key", x.write(3, 1), 20);
        x.puts(1, 4);
        int[] costs = {11, 21, 31};
        for (int i = 0; i < 3; i++) {
            due("of the split, the old one, the key", x.write(5 + i, 1), costs[i]);
        }
        x.drop(2);
        due("of the drop", x.write(8, 1), 21);
        due("of the joined one", x.write(9, 1), 30);
        due("of the other one", x.write(10, 1), 0);
    }

    @Says("To FLUSH n WRITES (0, too): the n eldest are done, one by one.")
    static void flushOfNoneOfOneOfAll() {
        granted("flush(0) and undo()", Edges::rich, NOTHING, x -> x.flush(0) * 10 + x.undo(), 232);
        Desk x = new Desk();
        due("flush(0) where none waits", x.flush(0), 0);
        due("status()", x.status(), 0);
        due("it can be undone", x.count(6), 1);
        rich(x);
        int waits = x.count(3);
        due("flush(1)", x.flush(1), waits - 1);
        due("flush(waits)", x.flush(waits - 1), 0);
        for (int b = 0; b < 10; b++) {
            for (int what = 0; what < 10; what++) {
                due("page(" + b + ", " + what + ")", x.page(b, what), x.of(b, what));
            }
        }
        Desk y = new Desk();
        y.puts(0, 2, 4, 1);
        y.flush(4);
        due("one by one: page(1, 0)", y.page(1, 0), 1);
        due("page(0, 1)", y.page(0, 1), 0);
        y.flush(1);
        due("page(0, 1)", y.page(0, 1), 1);
    }

    @Says("To CRASH behind n (0, too): the n eldest are done, the others are lost")
    static void crashBehindNoneAndAll() {
        Desk x = new Desk();
        due("crash(0) of an empty file", x.crash(0), 0);
        due("count(6)", x.count(6), 1);
        x.puts(0, 2, 4, 1);
        due("crash(0)", x.crash(0), 0);
        due("USED", x.count(1), 1);
        due("count(3)", x.count(3), 0);
        x.puts(0, 2, 4, 1);
        due("crash(6): behind all", x.crash(6), 4);
        due("USED", x.count(1), 2);
        due("count(3)", x.count(3), 0);
        keys(x, 0, 0, 2, 4);
        keys(x, 1, 1);
        due("crash(0) again", x.crash(0), 4);
        keys(x, 0, 0, 2, 4);
    }

    @Says({"BUILT: DEEP is the greatest DEPTH of PAGES that are USED; each SLOT is of that PAGE with the greatest DEPTH "
        + "the PREFIX of which is the lowest bits of it (one there always is)", "of others DEPTH is that with which a "
        + "BUCKET is of just so many SLOTS as it is, PREFIX the lowest of its SLOTS"})
    static void builtBehindEachWriteOfSixSplits() {
        for (int n = 0; n <= 16; n++) {
            Desk x = new Desk();
            x.deepen(6);
            int ofSplits = Math.max(0, Math.min(n - 3, 12));
            int born = (ofSplits + 1) / 2;
            due("torn(" + n + ")", x.torn(n), 64 - (1 << born));
            int keys = n < 3 ? n : n < 16 ? 3 : 4;
            due("crash(" + n + ")", x.crash(n), keys);
            due("DEEP behind " + n, x.count(0), born);
            due("USED behind " + n, x.count(1), born + 1);
            due("the old one's DEPTH", x.of(0, 1), born);
            due("its PREFIX", x.of(0, 2), 0);
            for (int b = 1; b <= born; b++) {
                due("of(" + b + ", 1)", x.of(b, 1), b);
                due("of(" + b + ", 2)", x.of(b, 2), 1 << b - 1);
                due("slot", x.slot(1 << b - 1), b);
            }
            due("slot(0)", x.slot(0), 0);
            due("the slot behind the last", x.slot(1 << born), -1);
        }
    }

    @Says("of others DEPTH is that with which a BUCKET is of just so many SLOTS as it is, PREFIX the lowest of its SLOTS")
    static void builtOfThePageThatKeepsTheUpperHalf() {
        // odd ones split by sign 0, then by sign 1: bucket 1 keeps 01; behind its twin's write alone it is of two
        Desk x = new Desk();
        x.putThrees(63, 63);
        x.put(key(1, 0), 1);
        x.flush(3);
        due("the first born is written ahead", x.crash(3), 3);
        due("USED", x.count(1), 3);
        due("of(0, 1)", x.of(0, 1), 1);
        due("of(1, 1): its page is of DEPTH 1, half of its slots are 2's", x.of(1, 1), 2);
        due("of(1, 2)", x.of(1, 2), 1);
        due("of(2, 1)", x.of(2, 1), 2);
        due("of(2, 2)", x.of(2, 2), 3);
        keys(x, 1);
        keys(x, 2, key(63, 0), key(63, 1), key(63, 2));
    }

    @Says("KEYS the HASH of which leads to another PAGE leave.")
    static void keysOfAnotherPageLeave() {
        Desk x = new Desk();
        x.put(1, 10);
        x.put(2, 20);
        x.put(3, 30);
        x.put(4, 40);
        // behind the new one's write the old one has 1 and 3 still
        due("crash(4)", x.crash(4), 3);
        keys(x, 0, 2);
        keys(x, 1, 1, 3);
        due("page(0, 3)", x.page(0, 3), 1);
        due("page(0, 4)", x.page(0, 4), 2);
        due("page(0, 7)", x.page(0, 7), 20);
        due("key(1, 1)", x.key(1, 1), 10);
        // by another SALT all of them do
        Desk y = new Desk();
        y.puts(0, 2, 4, 1);
        y.flush(6);
        for (int k : new int[] {1, 4, 2, 0}) {
            y.drop(k);
        }
        y.terms(3, 1);
        due("crash(0)", y.crash(0), 0);
        due("USED", y.count(1), 2);
        due("page(0, 3)", y.page(0, 3), 0);
    }

    @Says("So are the BUCKETS, and the PAGES of the DISK; no WRITES wait; DEEP is as low as can be.")
    static void bucketsAndPagesAreAlikeBehindACrash() {
        for (int n = 0; n <= 23; n++) {
            Desk x = new Desk();
            rich(x);
            x.crash(n);
            int deepest = 0;
            for (int b = 0; b < 10; b++) {
                for (int what = 0; what < 10; what++) {
                    due("page(" + b + ", " + what + ") behind " + n, x.page(b, what), x.of(b, what));
                }
                deepest = Math.max(deepest, x.of(b, 1));
            }
            due("DEEP behind " + n, x.count(0), deepest);
            due("count(3) behind " + n, x.count(3), 0);
            due("spent() behind " + n, x.spent(), 0);
            due("TIME behind " + n, x.count(14), 26);
            due("crash(0) again", x.crash(0), x.count(2));
            due("lost(0)", x.lost(0), 0);
            due("torn(0)", x.torn(0), 0);
        }
    }

    @Says({"BEHIND n WRITES a KEY is found: what its VALUE would be, were power lost behind n.", "LOST behind n: how "
        + "many KEYS that are there now would not be found with the same VALUE."})
    static void onPaperAsItWouldBe() {
        for (int n = 0; n <= 23; n++) {
            Desk x = new Desk();
            Desk y = new Desk();
            rich(x);
            rich(y);
            int lost = 0;
            int told = x.lost(n);
            y.crash(n);
            for (int k : new int[] {0, 1, 2, 3, 4, 5, 6, 7, 32, 64, 128, 200, 500, 900, 999}) {
                int value = y.key(k, 1);
                due("behind(" + n + ", " + k + ")", x.behind(n, k), value);
                int now = x.key(k, 1);
                lost += now >= 0 && now != value ? 1 : 0;
            }
            due("lost(" + n + ")", told, lost);
            due("on paper alone: count(3)", x.count(3), 23);
        }
    }

    @Says("LOST behind n: how many KEYS that are there now would not be found with the same VALUE.")
    static void lostWithAnotherValueOrNotAtAll() {
        Desk x = new Desk();
        x.put(1, 10);
        x.put(2, 20);
        x.put(1, 11);
        x.put(1, 10);
        x.put(3, 30);
        x.drop(3);
        int[] lost = {2, 1, 0, 1, 0, 0, 0};
        for (int n = 0; n < 7; n++) {
            due("lost(" + n + ")", x.lost(n), lost[n]);
        }
        due("behind(5, 3): one that is not there now", x.behind(5, 3), 30);
        none("lost(7)", Edges::rich, y -> y.lost(24));
        none("lost(-1)", Edges::rich, y -> y.lost(-1));
    }

    @Says("TORN: how many SLOTS the DIRECTORY would have that are of another BUCKET, or not there at all, or more, were "
        + "power lost behind n (of as many SLOTS as the larger one has), DEEP being as BUILT.")
    static void tornByFewerByMoreByOthers() {
        Desk x = new Desk();
        x.deepen(6);
        due("fewer: all but the first", x.torn(0), 63);
        due("as many", x.torn(16), 0);
        x.flush(16);
        x.drop(key(32, 0));
        due("more: all but the first", x.torn(0), 63);
        due("as many", x.torn(13), 0);
        Desk y = new Desk();
        y.deepen(2);
        y.flush(8);
        y.putThrees(1, 1);
        y.put(key(3, 0), 1);
        due("of another one: slot 3 was 1's, is 3's", y.torn(0), 1);
        due("behind the new one's write", y.torn(4), 0);
        y.put(key(5, 0), 1);
        due("four fewer and one of another", y.torn(0), 5);
        none("torn(-1)", Edges::rich, z -> z.torn(-1));
        none("torn(24)", Edges::rich, z -> z.torn(24));
    }

    @Says("SPLITS: how many of KEYS 0 .. 999 that are not there, nor BARRED, would SPLIT a BUCKET, once or more often, "
        + "were they PUT alone (one for which there is no room would not).")
    static void splitsAsEachPutWouldTell() {
        Acts[] files = {Edges::rich, x -> x.putThrees(0, 21), x -> x.putThrees(0, 0), x -> {
            x.under("bars if key % 3 = 0 and many = 3");
            x.puts(0, 2, 4, 1);
        }};
        for (Acts file : files) {
            Desk x = new Desk();
            file.on(x);
            int told = x.splits();
            int many = 0;
            for (int k = 0; k < 1000; k++) {
                if (x.callsLeft() < 3) {
                    x = new Desk();
                    file.on(x);
                }
                if (x.key(k, 1) < 0) {
                    int splits = x.put(k, 0);
                    many += splits > 0 ? 1 : 0;
                    if (splits >= 0) {
                        x.undo();
                    }
                }
            }
            due("splits()", told, many);
        }
    }

    @Says("(one for which there is no room would not)")
    static void splitsWhereThereIsNoRoom() {
        asked("splits() of an empty file", NOTHING, Desk::splits, 0);
        asked("splits() of two keys", x -> x.puts(1, 2), Desk::splits, 0);
        asked("splits() of three keys", x -> x.puts(1, 2, 3), Desk::splits, 997);
        asked("splits() of a full file", x -> x.putThrees(0, 23), Desk::splits, 0);
        // bucket of slot 0 has no room for the other keys of slot 0, of which there are 16 with the three
        asked("splits() of three keys alike", x -> x.putThrees(0, 0), Desk::splits, 1000 - 16);
        asked("splits() where all are barred", x -> {
            x.puts(1, 2, 3);
            x.under("bars");
        }, Desk::splits, 0);
    }

    @Says("ROOM: how many KEYS more the BUCKETS that are USED could have.")
    static void roomFromAnEmptyFileToAFullOne() {
        asked("room()", NOTHING, Desk::room, 3);
        asked("room()", x -> x.puts(1, 2, 3), Desk::room, 0);
        asked("room()", x -> x.deepen(6), Desk::room, 17);
        asked("room()", x -> x.putThrees(0, 23), Desk::room, 0);
        asked("room()", x -> {
            x.putThrees(0, 23);
            x.drop(key(8, 0));
        }, Desk::room, 1);
    }

    @Says("SALTS: of 0 .. 31 the SALT by which the KEYS that are there, were they PUT one by one, rising, in an empty "
        + "file, would use the fewest BUCKETS (BARRED aside; a SALT by which one finds no room: never); the lowest.")
    static void saltsOfNoKeyOfFewOfMost() {
        Acts[] files = {NOTHING, x -> x.puts(1), x -> x.puts(1, 2, 3), x -> x.puts(1, 2, 3, 4), x -> x.deepen(6),
            x -> x.putThrees(0, 23), x -> {
                x.puts(1, 2, 3, 4);
                x.under("bars");
            }};
        int[] buckets = {1, 1, 1, 2, 7, 24, 2};
        for (int i = 0; i < files.length; i++) {
            asked("salts(0)", files[i], x -> x.salts(0), 0);
            asked("salts(1)", files[i], x -> x.salts(1), buckets[i]);
        }
        for (int what : new int[] {-1, 2, LOW, HIGH}) {
            none("salts(" + what + ")", Edges::rich, x -> x.salts(what));
        }
        // by a SALT of its own, and where the file has more BUCKETS than it must
        Desk x = new Desk();
        x.terms(3, 31);
        x.deepen(6);
        x.crash(15);
        due("USED", x.count(1), 7);
        due("salts(0)", x.salts(0), 0);
        due("salts(1)", x.salts(1), 1);
    }

    @Says("IT CAN BE: BUCKETS that are USED of which all that was SEEN is so (a SLOT that is not there is of none).")
    static void itCanBeNoneOneOrAll() {
        Acts deep = x -> x.deepen(6);
        asked("nothing was seen", deep, Desk::canBe, 127);
        asked("is of 0", x -> {
            x.deepen(6);
            x.seen(0, 1);
        }, Desk::canBe, 1);
        asked("is of 0 and 6", x -> {
            x.deepen(6);
            x.seen(0, 1);
            x.seen(32, 1);
        }, Desk::canBe, 0);
        asked("is and is not", x -> {
            x.deepen(6);
            x.seen(0, 1);
            x.seen(0, 0);
        }, Desk::canBe, 0);
        asked("six are not", x -> {
            x.deepen(6);
            for (int i : new int[] {0, 1, 2, 4, 8, 16}) {
                x.seen(i, 0);
            }
        }, Desk::canBe, 1 << 6);
        asked("a SLOT that is not there is not", x -> {
            x.deepen(3);
            x.seen(8, 0);
            x.seen(63, 0);
        }, Desk::canBe, 15);
        asked("a SLOT that is not there is", x -> {
            x.deepen(3);
            x.seen(8, 1);
        }, Desk::canBe, 0);
        asked("the last SLOT that is there", x -> {
            x.deepen(3);
            x.seen(7, 1);
        }, Desk::canBe, 2);
        Desk x = new Desk();
        x.deepen(6);
        x.seen(32, 1);
        due("canBe()", x.canBe(), 1 << 6);
        x.drop(key(32, 0));
        due("the SLOT is not there any more", x.canBe(), 0);
        x.undo();
        due("it is again", x.canBe(), 1 << 6);
    }

    @Says("To READ next: the SLOT by which of these the most that are alike (it is of one, or not) are as few as can be; "
        + "the lowest.")
    static void readTheLowestOfThoseAlike() {
        asked("read(0) of one bucket", NOTHING, x -> x.read(0), 0);
        asked("read(1) of one bucket", NOTHING, x -> x.read(1), 1);
        asked("read(0) of two", x -> x.deepen(1), x -> x.read(0), 0);
        asked("read(1) of two", x -> x.deepen(1), x -> x.read(1), 1);
        asked("read(0) of seven", x -> x.deepen(6), x -> x.read(0), 0);
        asked("read(1) of seven", x -> x.deepen(6), x -> x.read(1), 6);
        Acts last = x -> {
            x.deepen(6);
            for (int i : new int[] {0, 1, 2, 4, 8}) {
                x.seen(i, 0);
            }
        };
        asked("read(0): of 16 or 32", last, x -> x.read(0), 16);
        asked("read(1): of 16 or 32", last, x -> x.read(1), 1);
        asked("read(0) of the last alone", x -> {
            last.on(x);
            x.seen(16, 0);
        }, x -> x.read(0), 0);
        Acts none = x -> {
            x.seen(0, 0);
        };
        none("read(0) of none", none, x -> x.read(0));
        none("read(1) of none", none, x -> x.read(1));
        for (int what : new int[] {-1, 2, LOW, HIGH}) {
            none("read(" + what + ")", Edges::rich, x -> x.read(what));
        }
    }

    @Says("write by write, by how many did, each part times the rest by ten and times FAILS by ten (one more), both cut; "
        + "of those below k all together.")
    static void fewIsCutAtEachWrite() {
        for (int fails = 0; fails <= 10; fails++) {
            Desk x = new Desk();
            x.terms(1, fails);
            for (int n : new int[] {0, 1, 2, 12, 13, 14, 15, 50, 98, 99}) {
                long[] parts = new long[102];
                parts[0] = 1000000000000L;
                for (int i = 0; i < n; i++) {
                    for (int did = i; did >= 0; did--) {
                        parts[did + 1] += parts[did] * fails / 10;
                        parts[did] = parts[did] * (10 - fails) / 10;
                    }
                }
                for (int k : new int[] {1, 2, 3, 19, 20}) {
                    long together = 0;
                    for (int did = 0; did < k; did++) {
                        together += parts[did];
                    }
                    due("FAILS " + fails + ": few(" + k + ", " + n + ")", x.few(k, n), together);
                }
            }
        }
        Desk x = new Desk();
        x.terms(1, 3);
        // seven to the twelfth is 13,841,287,201: the thirteenth write cuts seven tenths off
        due("few(1, 12)", x.few(1, 12), 13841287201L);
        due("few(1, 13)", x.few(1, 13), 9688901040L);
    }

    @Says("COMPARED: what a write of a BUCKET COSTS by a LAW in place of that in FORCE (NONE: none).")
    static void comparedWithNoLaw() {
        asked("compare(-1, 0)", Edges::rich, x -> x.compare(-1, 0), 1);
        asked("compare(-1, 23)", Edges::rich, x -> x.compare(-1, 23), 1);
        asked("compare(1, 23)", Edges::rich, x -> x.compare(1, 23), 24);
        asked("compare(0, 0)", Edges::rich, x -> x.compare(0, 0), 36);
        asked("compare(0, 23): not USED", Edges::rich, x -> x.compare(0, 23), 0);
        for (int law : new int[] {-2, 2, LOW, HIGH}) {
            none("compare(" + law + ", 0)", Edges::rich, x -> x.compare(law, 0));
        }
    }

    @Says("SPENT: what all WRITES that wait COST, each as it was when it came.")
    static void spentOfNoneAndOf40() {
        asked("spent()", NOTHING, Desk::spent, 0);
        Acts forty = x -> {
            x.under("costs 99");
            for (int i = 0; i < 40; i++) {
                x.put(5, i);
            }
        };
        asked("spent() of forty", forty, Desk::spent, 40 * 99);
        asked("spent() of forty, one of them later", x -> {
            forty.on(x);
            x.under("costs 0");
            x.put(5, 5);
        }, Desk::spent, 39 * 99);
        asked("spent() by another law", x -> {
            forty.on(x);
            x.force(-1);
        }, Desk::spent, 40 * 99);
        asked("spent() behind flush()", x -> {
            forty.on(x);
            x.flush(39);
        }, Desk::spent, 99);
    }
}
