/**
 * An object of the program with its calls counted: the document promises nothing behind the 512th, so that a
 * test that makes more of them is wrong itself. Texts are laid on the tape as plain strings.
 */
final class Desk {
    static final int MOST_CALLS = 512;

    private final TwinBuckets x = new TwinBuckets();
    private int calls = 0;

    /** The object, with one call more counted. */
    private TwinBuckets called() {
        calls++;
        if (calls > MOST_CALLS) {
            throw new IllegalStateException("the test makes more than " + MOST_CALLS + " calls");
        }
        return x;
    }

    int callsLeft() {
        return MOST_CALLS - calls;
    }

    int of(int bucket, int what) {
        return called().of(bucket, what);
    }

    int page(int bucket, int what) {
        return called().page(bucket, what);
    }

    int write(int i, int what) {
        return called().write(i, what);
    }

    int slot(int i) {
        return called().slot(i);
    }

    int key(int key, int what) {
        return called().key(key, what);
    }

    int terms(int what, int value) {
        return called().terms(what, value);
    }

    int feed(int a, int b, int c, int d, int e) {
        return called().feed(a, b, c, d, e);
    }

    int end(int n) {
        return called().end(n);
    }

    int row() {
        return called().row();
    }

    int tears() {
        return called().tears();
    }

    int law() {
        return called().law();
    }

    int orders() {
        return called().orders();
    }

    int fault() {
        return called().fault();
    }

    int stopped() {
        return called().stopped();
    }

    int force(int law) {
        return called().force(law);
    }

    int put(int key, int value) {
        return called().put(key, value);
    }

    int drop(int key) {
        return called().drop(key);
    }

    int flush(int n) {
        return called().flush(n);
    }

    int crash(int n) {
        return called().crash(n);
    }

    int undo() {
        return called().undo();
    }

    int behind(int n, int key) {
        return called().behind(n, key);
    }

    int lost(int n) {
        return called().lost(n);
    }

    int torn(int n) {
        return called().torn(n);
    }

    int splits() {
        return called().splits();
    }

    int room() {
        return called().room();
    }

    int twin(int bucket) {
        return called().twin(bucket);
    }

    int salts(int what) {
        return called().salts(what);
    }

    int spent() {
        return called().spent();
    }

    int seen(int slot, int is) {
        return called().seen(slot, is);
    }

    int forget() {
        return called().forget();
    }

    int canBe() {
        return called().canBe();
    }

    int read(int what) {
        return called().read(what);
    }

    long few(int k, int n) {
        return called().few(k, n);
    }

    int compare(int law, int bucket) {
        return called().compare(law, bucket);
    }

    int years(int seed, int n) {
        return called().years(seed, n);
    }

    int drawn(int k) {
        return called().drawn(k);
    }

    int image(int k) {
        return called().image(k);
    }

    int back(int k) {
        return called().back(k);
    }

    int count(int what) {
        return called().count(what);
    }

    int status() {
        return called().status();
    }

    /** The tape has just this text then. */
    Desk tape(String text) {
        end(0);
        for (int i = 0; i < text.length(); i += 20) {
            int[] five = new int[5];
            for (int j = 0; j < 20; j++) {
                five[j / 4] = five[j / 4] << 8 | (i + j < text.length() ? text.charAt(i + j) : 0);
            }
            feed(five[0], five[1], five[2], five[3], five[4]);
        }
        if (end(text.length()) != text.length()) {
            throw new IllegalStateException("the tape does not take '" + text + "'");
        }
        return this;
    }

    int law(String text) {
        return tape(text).law();
    }

    int orders(String text) {
        return tape(text).orders();
    }

    /** A row of these bytes. */
    int row(int... bytes) {
        return tape(text(bytes)).row();
    }

    static String text(int... bytes) {
        StringBuilder text = new StringBuilder();
        for (int b : bytes) {
            text.append((char) b);
        }
        return text.toString();
    }

    /** This text becomes a law that is in force. */
    Desk under(String text) {
        int law = law(text);
        if (law < 0) {
            throw new IllegalStateException("no law: '" + text + "'");
        }
        force(law);
        return this;
    }

    Desk puts(int... keys) {
        for (int k : keys) {
            put(k, k % 100);
        }
        return this;
    }

    /** The i-th key the lowest six signs of whose hash are those of a slot, while SALT is 0. */
    static int keyAt(int slot, int i) {
        int key = slot * 45 % 64 + 64 * i;
        if (421 * key % 64 != slot || key > 999) {
            throw new IllegalStateException("no such key: " + slot + ", " + i);
        }
        return key;
    }

    /** Three keys of each of these slots: slots 0 .. 23 fill sixteen buckets of depth 5 and eight of depth 4. */
    Desk putThrees(int from, int to) {
        for (int slot = from; slot <= to; slot++) {
            for (int i = 0; i < 3; i++) {
                put(keyAt(slot, i), slot);
            }
        }
        return this;
    }

    /** Three keys of slot 0 and one that differs by the sign below: DEEP is so much, by as many splits. */
    Desk deepen(int deep) {
        putThrees(0, 0);
        put(keyAt(1 << deep - 1, 0), 9);
        return this;
    }
}
