import java.util.Arrays;

/**
 * A file of twin buckets: extendible hashing whose pages are written later than they change,
 * so that power may go between any two writes. The promises are in the project's document.
 */
public final class TwinBuckets {
    public static final int NONE = -1;

    private static final int BAD_NUMBER = -1;
    private static final int NOT_KEPT = -2;
    private static final int CANT_BE = -3;
    private static final int NO_ROOM = -5;
    private static final int BAD_TEXT = -6;

    private static final int KEYS = 1000;
    private static final int MOST_VALUE = 99;
    private static final int BUCKETS = 24;
    private static final int BUCKET_KEYS = 3;
    private static final int MOST_DEPTH = 6;
    private static final int SLOTS = 64;
    private static final int MOST_TIME = 999;
    private static final int MOST_FAILS = 10;
    private static final int MOST_MOOD = 9;
    private static final int MOST_SALT = 999;
    private static final int SALTS_TRIED = 32;

    // A bucket's row of cells: the places are the same as the "what" of of() and page().
    private static final int USED = 0;
    private static final int DEPTH = 1;
    private static final int PREFIX = 2;
    private static final int MANY = 3;
    private static final int KEY = 4;
    private static final int VALUE = 7;
    private static final int CELLS = 10;

    // A write's row of cells: its bucket, its cost, then the whole page.
    private static final int MOST_WRITES = 40;
    private static final int WRITE_COST = 1;
    private static final int WRITE_PAGE = 2;
    private static final int WRITE_CELLS = WRITE_PAGE + CELLS;

    private static final int MOST_SEEN = 6;
    private static final int MOST_LAWS = 6;
    private static final int MOST_UNDONE = 16;
    private static final int IMAGES = 2;

    private static final int MOST_BYTES = 400;
    private static final int FED_BYTES = 20;
    private static final int MOST_CLAUSES = 12;
    private static final int MOST_PARTS = 50;
    private static final int MOST_BRACKETS = 8;
    private static final int MOST_NUMBER = 1000;
    private static final int MOST_TIMES = 20;
    private static final int BOUND = 1_000_000_000;
    // Told in place of a worth: no sum that stands can reach it.
    private static final int BROKEN = -2_000_000_000;

    // A clause's row of cells: each part is a span of the code, from its cell to the next one.
    private static final int KIND = 0;
    private static final int TIMES = 1;
    private static final int FIRST = 2;
    private static final int SECOND = 4;
    private static final int TEST = 6;
    private static final int CLAUSE_CELLS = 8;

    // Kinds of clauses; those of orders are also what undo() tells.
    private static final int PUT = 0;
    private static final int DROP = 1;
    private static final int FLUSH = 2;
    private static final int CRASH = 3;
    private static final int COSTS = 4;
    private static final int BARS = 5;

    // The code of sums and tests, in postfix order.
    private static final int OP_NUMBER = 0;
    private static final int OP_WORD = 1;
    private static final int OP_NOT = 2;
    private static final int OP_AND = 3;
    private static final int OP_OR = 4;
    private static final int OP_ADD = 5;
    private static final int OP_TAKE = 6;
    private static final int OP_TIMES = 7;
    private static final int OP_DIVIDE = 8;
    private static final int OP_REST = 9;
    private static final int OP_LESS = 10;
    private static final int OP_MORE = 11;
    private static final int OP_SAME = 12;
    private static final int STACK = 64;

    private static final int LAW_WORDS = 7;

    private static final int WORD_TIME = 0;
    private static final int WORD_DONE = 1;
    private static final int WORD_LATEST = 2;
    private static final int WORD_DEEP = 3;
    private static final int WORD_WAITS = 4;
    private static final int WORD_KEYS = 5;
    private static final int ORDER_WORDS = 6;

    private static final int MOST_YEARS = 60;
    private static final int MOST_SEED = 1_000_000;
    private static final int DRAWN_KEYS = 40;
    private static final int DRAWN_VALUES = 8;
    private static final int DRAWN_ACTS = 8;
    private static final int MOST_FEW = 20;
    private static final int MOST_FEW_WRITES = 99;
    private static final long WHOLE_CHANCE = 1_000_000_000_000L;

    private final Store now = new Store();
    private final Store paper = new Store();
    private final Store aheadOfOrders = new Store();
    private final Rules rules = new Rules();
    private final Sightings sightings = new Sightings();
    private final History history = new History();
    private final History orderHistory = new History();
    private final Image[] images = new Image[IMAGES];
    private final Tape tape = new Tape();
    private final int[] orderWords = new int[ORDER_WORDS + MOST_PARTS];
    private final int[] refusals = new int[1 - BAD_TEXT];
    private final int[] drawnValues = new int[DRAWN_KEYS];
    private final int[] slotCounts = new int[SLOTS];
    private final long[] chances = new long[MOST_FEW];
    private int tearsOfRow = 0;
    private int faultPlace = NONE;
    private int stoppedClause = NONE;
    private int latestRefusal = 0;

    public TwinBuckets() {
        now.open();
        Arrays.fill(drawnValues, NONE);
    }

    public int of(int bucket, int what) {
        return now.buckets.tell(bucket, what);
    }

    public int page(int bucket, int what) {
        return now.disk.tell(bucket, what);
    }

    public int write(int i, int what) {
        return now.tellWrite(i, what);
    }

    public int slot(int i) {
        return i < now.slotsThere() ? now.ownerOf(i) : NONE;
    }

    public int key(int key, int what) {
        if (!isKey(key)) {
            return NONE;
        }
        switch (what) {
            case 0:
                return rules.hashOf(key);
            case 1:
                return now.valueOf(key, rules);
            case 2:
                return now.soughtIn(key, rules);
            case 3:
                return now.isBarred(key, rules) ? 1 : 0;
            default:
                return NONE;
        }
    }

    public int terms(int what, int value) {
        if (value < 0 || value > mostOfTerm(what)) {
            return refuse(BAD_NUMBER);
        }
        if (what == 3 && now.keysThere() > 0) {
            return refuse(CANT_BE);
        }
        int was = termNow(what);
        setTerm(what, value);
        history.clear();
        return grant(was);
    }

    public int feed(int a, int b, int c, int d, int e) {
        if (tape.fed + FED_BYTES > MOST_BYTES) {
            return NONE;
        }
        tape.addBytes(a);
        tape.addBytes(b);
        tape.addBytes(c);
        tape.addBytes(d);
        tape.addBytes(e);
        return tape.fed;
    }

    public int end(int n) {
        if (n < 0 || n > tape.fed) {
            return NONE;
        }
        tape.fed = n;
        return n;
    }

    public int row() {
        int length = tape.take();
        if (length == 0) {
            return refuse(BAD_TEXT);
        }
        int done = 0;
        for (int i = 0; i + 1 < length; i += 2) {
            if (now.placeKey(tape.bytes[i], tape.bytes[i + 1], rules) >= 0) {
                done++;
            }
        }
        tearsOfRow = (length + 1) / 2 - done;
        history.clear();
        return grant(done);
    }

    public int tears() {
        return tearsOfRow;
    }

    public int law() {
        tape.take();
        if (rules.lawCount >= MOST_LAWS) {
            return refuse(NO_ROOM);
        }
        faultPlace = tape.readText(false);
        if (faultPlace != NONE) {
            return refuse(BAD_TEXT);
        }
        return grant(rules.addLaw(new Text(tape.text)));
    }

    public int orders() {
        tape.take();
        stoppedClause = NONE;
        faultPlace = tape.readText(true);
        if (faultPlace != NONE) {
            return refuse(BAD_TEXT);
        }
        aheadOfOrders.copyFrom(now);
        orderHistory.clear();
        orderWords[WORD_DONE] = 0;
        orderWords[WORD_LATEST] = NONE;
        for (int c = 0; c < tape.text.clauseCount; c++) {
            if (!runClause(tape.text, c)) {
                stoppedClause = c;
                now.copyFrom(aheadOfOrders);
                return refuse(CANT_BE);
            }
        }
        history.takeOver(orderHistory);
        return grant(orderWords[WORD_DONE]);
    }

    public int fault() {
        return faultPlace;
    }

    public int stopped() {
        return stoppedClause;
    }

    public int force(int law) {
        if (law < NONE || law >= rules.lawCount) {
            return refuse(NOT_KEPT);
        }
        int was = rules.inForce;
        rules.inForce = law;
        return grant(was);
    }

    public int put(int key, int value) {
        return answer(act(PUT, key, value, history));
    }

    public int drop(int key) {
        return answer(act(DROP, key, 0, history));
    }

    public int flush(int n) {
        return answer(act(FLUSH, n, 0, history));
    }

    public int crash(int n) {
        return answer(act(CRASH, n, 0, history));
    }

    public int undo() {
        int kind = history.takeBack(now);
        return kind == NONE ? refuse(CANT_BE) : grant(kind);
    }

    public int behind(int n, int key) {
        return isKey(key) && losePowerOnPaper(n) ? paper.valueOf(key, rules) : NONE;
    }

    public int lost(int n) {
        return losePowerOnPaper(n) ? now.keysNotAlike(paper, rules) : NONE;
    }

    public int torn(int n) {
        return losePowerOnPaper(n) ? now.slotsNotAlike(paper) : NONE;
    }

    public int splits() {
        int many = 0;
        for (int key = 0; key < KEYS; key++) {
            if (now.wouldSplit(key, rules)) {
                many++;
            }
        }
        return many;
    }

    public int room() {
        return now.buckets.usedCount() * BUCKET_KEYS - now.keysThere();
    }

    public int twin(int bucket) {
        return isBucket(bucket) ? now.twinOf(bucket) : NONE;
    }

    public int salts(int what) {
        int best = NONE;
        int fewest = BUCKETS + 1;
        for (int salt = 0; salt < SALTS_TRIED; salt++) {
            int needed = now.bucketsBySalt(salt, slotCounts);
            if (needed < fewest) {
                best = salt;
                fewest = needed;
            }
        }
        if (best == NONE || what < 0 || what > 1) {
            return NONE;
        }
        return what == 0 ? best : fewest;
    }

    public int spent() {
        return now.costOfWaiting();
    }

    public int seen(int slot, int is) {
        if (slot < 0 || slot >= SLOTS || is < 0 || is > 1) {
            return refuse(BAD_NUMBER);
        }
        if (sightings.many >= MOST_SEEN) {
            return refuse(NO_ROOM);
        }
        return grant(sightings.add(slot, is));
    }

    public int forget() {
        int many = sightings.many;
        sightings.many = 0;
        return many;
    }

    public int canBe() {
        return sightings.candidates(now);
    }

    public int read(int what) {
        int candidates = sightings.candidates(now);
        if (candidates == 0 || what < 0 || what > 1) {
            return NONE;
        }
        int all = Integer.bitCount(candidates);
        int best = 0;
        int fewest = BUCKETS + 1;
        for (int i = 0; i < now.slotsThere(); i++) {
            int ofIt = candidates >> now.ownerOf(i) & 1;
            int left = Math.max(ofIt, all - ofIt);
            if (left < fewest) {
                best = i;
                fewest = left;
            }
        }
        return what == 0 ? best : fewest;
    }

    public long few(int k, int n) {
        if (k < 1 || k > MOST_FEW || n < 0 || n > MOST_FEW_WRITES) {
            return NONE;
        }
        Arrays.fill(chances, 0L);
        chances[0] = WHOLE_CHANCE;
        for (int i = 0; i < n; i++) {
            oneWriteMore(k);
        }
        long together = 0;
        for (int j = 0; j < k; j++) {
            together += chances[j];
        }
        return together;
    }

    public int compare(int law, int bucket) {
        if (law < NONE || law >= rules.lawCount || !isBucket(bucket)) {
            return NONE;
        }
        return rules.costOf(law, now, bucket);
    }

    public int years(int seed, int n) {
        if (seed < 0 || seed > MOST_SEED || n < 1 || n > MOST_YEARS) {
            return refuse(BAD_NUMBER);
        }
        paper.copyFrom(now);
        int state = seed;
        for (int i = 0; i < n; i++) {
            int keyDraw = nextDraw(state);
            int valueDraw = nextDraw(keyDraw);
            int actDraw = nextDraw(valueDraw);
            actOnPaper(keyDraw % DRAWN_KEYS, valueDraw % DRAWN_VALUES, actDraw % DRAWN_ACTS);
            state = actDraw;
        }
        for (int k = 0; k < DRAWN_KEYS; k++) {
            drawnValues[k] = paper.valueOf(k, rules);
        }
        return grant(paper.keysThere());
    }

    public int drawn(int k) {
        return k >= 0 && k < DRAWN_KEYS ? drawnValues[k] : NONE;
    }

    public int image(int k) {
        if (k < 0 || k >= IMAGES) {
            return refuse(BAD_NUMBER);
        }
        Image image = images[k];
        if (image == null) {
            image = new Image();
            images[k] = image;
        }
        image.store.copyFrom(now);
        image.rules.copyFrom(rules);
        image.sightings.copyFrom(sightings);
        return grant(0);
    }

    public int back(int k) {
        if (k < 0 || k >= IMAGES) {
            return refuse(BAD_NUMBER);
        }
        Image image = images[k];
        if (image == null) {
            return refuse(NOT_KEPT);
        }
        now.copyFrom(image.store);
        rules.copyFrom(image.rules);
        sightings.copyFrom(image.sightings);
        history.clear();
        return grant(0);
    }

    public int count(int what) {
        switch (what) {
            case 0:
                return now.deep;
            case 1:
                return now.buckets.usedCount();
            case 2:
                return now.keysThere();
            case 3:
                return now.waits;
            case 4:
                return sightings.many;
            case 5:
                return rules.lawCount;
            case 6:
                return history.many;
            case 7:
                return tape.fed;
            case 8:
                return refusals[-BAD_NUMBER];
            case 9:
                return refusals[-NOT_KEPT];
            case 10:
                return refusals[-CANT_BE];
            case 11:
                return refusals[-NO_ROOM];
            case 12:
                return refusals[-BAD_TEXT];
            case 13:
                return rules.inForce;
            case 14:
            case 15:
            case 16:
            case 17:
                return termNow(what - 14);
            default:
                return NONE;
        }
    }

    public int status() {
        return latestRefusal;
    }

    private static boolean isKey(int key) {
        return key >= 0 && key < KEYS;
    }

    private static boolean isBucket(int bucket) {
        return bucket >= 0 && bucket < BUCKETS;
    }

    private int refuse(int why) {
        latestRefusal = why;
        refusals[-why]++;
        return why;
    }

    private int grant(int told) {
        latestRefusal = 0;
        return told;
    }

    private int answer(int told) {
        return told < 0 ? refuse(told) : grant(told);
    }

    /** -1 for a term that there is not, so that no value is low enough for it. */
    private static int mostOfTerm(int what) {
        switch (what) {
            case 0:
                return MOST_TIME;
            case 1:
                return MOST_FAILS;
            case 2:
                return MOST_MOOD;
            case 3:
                return MOST_SALT;
            default:
                return NONE;
        }
    }

    private int termNow(int what) {
        switch (what) {
            case 0:
                return now.time;
            case 1:
                return rules.fails;
            case 2:
                return rules.mood;
            default:
                return rules.salt;
        }
    }

    private void setTerm(int what, int value) {
        switch (what) {
            case 0:
                now.time = value;
                break;
            case 1:
                rules.fails = value;
                break;
            case 2:
                rules.mood = value;
                break;
            default:
                rules.salt = value;
                break;
        }
    }

    private int act(int kind, int first, int second, History kept) {
        kept.prepare(now);
        int told;
        switch (kind) {
            case PUT:
                told = now.placeKey(first, second, rules);
                break;
            case DROP:
                told = now.removeKey(first, rules);
                break;
            case FLUSH:
                told = now.doWrites(first);
                break;
            default:
                told = now.losePower(first, rules);
                break;
        }
        if (told >= 0) {
            kept.commit(kind);
        }
        return told;
    }

    private boolean runClause(Text text, int clause) {
        int kind = text.cell(clause, KIND);
        int times = text.cell(clause, TIMES);
        for (int i = 0; i < times; i++) {
            fillOrderWords(text);
            if (text.worth(clause, TEST, orderWords, rules.stack) != 1) {
                continue;
            }
            int first = text.worth(clause, FIRST, orderWords, rules.stack);
            int second = text.worth(clause, SECOND, orderWords, rules.stack);
            if (first == BROKEN || second == BROKEN) {
                return false;
            }
            int told = act(kind, first, second, orderHistory);
            if (told < 0) {
                return false;
            }
            orderWords[WORD_DONE]++;
            if (kind == PUT) {
                orderWords[WORD_LATEST] = told;
            }
        }
        return true;
    }

    /** All words are looked up ahead, so that the arithmetic needs no file. */
    private void fillOrderWords(Text text) {
        orderWords[WORD_TIME] = now.time;
        orderWords[WORD_DEEP] = now.deep;
        orderWords[WORD_WAITS] = now.waits;
        orderWords[WORD_KEYS] = now.keysThere();
        for (int i = 0; i < text.askedCount && i < MOST_PARTS; i++) {
            int asked = text.asked[i];
            orderWords[ORDER_WORDS + i] = asked < KEYS
                ? now.valueOf(asked, rules)
                : now.buckets.tell(asked - KEYS, MANY);
        }
    }

    private boolean losePowerOnPaper(int n) {
        if (n < 0 || n > now.waits) {
            return false;
        }
        paper.copyFrom(now);
        paper.losePower(n, rules);
        return true;
    }

    private void oneWriteMore(int k) {
        for (int j = k - 1; j >= 0; j--) {
            long holds = chances[j] * (MOST_FAILS - rules.fails) / MOST_FAILS;
            long fails = j == 0 ? 0 : chances[j - 1] * rules.fails / MOST_FAILS;
            chances[j] = holds + fails;
        }
    }

    private static int nextDraw(int state) {
        return (int) ((state * 1103L + 12345L) % 1_000_003L);
    }

    private void actOnPaper(int key, int second, int draw) {
        if (draw <= 4) {
            paper.placeKey(key, second, rules);
        } else if (draw <= 6) {
            paper.removeKey(key, rules);
        } else {
            paper.losePower(Math.min(second, paper.waits), rules);
        }
    }

    /** All buckets, as they are in the file or as pages on the disk. */
    private static final class Pages {
        final int[] cells = new int[BUCKETS * CELLS];

        void copyFrom(Pages other) {
            System.arraycopy(other.cells, 0, cells, 0, cells.length);
        }

        /** What of() and page() tell. */
        int tell(int bucket, int what) {
            if (!isBucket(bucket) || what < 0 || what >= CELLS) {
                return NONE;
            }
            boolean isThere = what == USED
                || isUsed(bucket) && (what < KEY || (what - KEY) % BUCKET_KEYS < many(bucket));
            return isThere ? cell(bucket, what) : NONE;
        }

        int cell(int bucket, int place) {
            int at = bucket * CELLS + place;
            return at >= 0 && at < cells.length ? cells[at] : 0;
        }

        void setCell(int bucket, int place, int told) {
            int at = bucket * CELLS + place;
            if (at >= 0 && at < cells.length) {
                cells[at] = told;
            }
        }

        boolean isUsed(int bucket) {
            return cell(bucket, USED) != 0;
        }

        int depth(int bucket) {
            return cell(bucket, DEPTH);
        }

        int prefix(int bucket) {
            return cell(bucket, PREFIX);
        }

        int many(int bucket) {
            return cell(bucket, MANY);
        }

        int keyAt(int bucket, int i) {
            return cell(bucket, KEY + i);
        }

        int valueAt(int bucket, int i) {
            return cell(bucket, VALUE + i);
        }

        void setPlace(int bucket, int depth, int prefix) {
            setCell(bucket, USED, 1);
            setCell(bucket, DEPTH, depth);
            setCell(bucket, PREFIX, prefix);
        }

        void setKey(int bucket, int i, int key, int value) {
            setCell(bucket, KEY + i, key);
            setCell(bucket, VALUE + i, value);
        }

        void clear(int bucket) {
            for (int place = 0; place < CELLS; place++) {
                setCell(bucket, place, 0);
            }
        }

        /** Where in its bucket a key is. */
        int find(int bucket, int key) {
            for (int i = 0; i < many(bucket); i++) {
                if (keyAt(bucket, i) == key) {
                    return i;
                }
            }
            return NONE;
        }

        void append(int bucket, int key, int value) {
            int at = many(bucket);
            if (at < BUCKET_KEYS) {
                setKey(bucket, at, key, value);
                setCell(bucket, MANY, at + 1);
            }
        }

        void removeAt(int bucket, int i) {
            int last = many(bucket) - 1;
            for (int j = i; j < last; j++) {
                setKey(bucket, j, keyAt(bucket, j + 1), valueAt(bucket, j + 1));
            }
            setCell(bucket, MANY, last);
        }

        int usedCount() {
            int used = 0;
            for (int b = 0; b < BUCKETS; b++) {
                used += cell(b, USED);
            }
            return used;
        }

        int lowestFree() {
            for (int b = 0; b < BUCKETS; b++) {
                if (!isUsed(b)) {
                    return b;
                }
            }
            return NONE;
        }

        int greatestDepth() {
            int greatest = 0;
            for (int b = 0; b < BUCKETS; b++) {
                if (isUsed(b)) {
                    greatest = Math.max(greatest, depth(b));
                }
            }
            return greatest;
        }
    }

    /** The file with its disk, its waiting writes and its time: all that undo() takes back. */
    private static final class Store {
        final Pages buckets = new Pages();
        final Pages disk = new Pages();
        // Kept for all 64 slots whatever the depth is: doubling and halving then move nothing.
        final int[] owners = new int[SLOTS];
        // A ring: the eldest write may stand anywhere.
        final int[] writes = new int[MOST_WRITES * WRITE_CELLS];
        int eldest = 0;
        int waits = 0;
        int deep = 0;
        int time = 0;

        void open() {
            buckets.setPlace(0, 0, 0);
            disk.setPlace(0, 0, 0);
        }

        void copyFrom(Store other) {
            buckets.copyFrom(other.buckets);
            disk.copyFrom(other.disk);
            System.arraycopy(other.owners, 0, owners, 0, SLOTS);
            System.arraycopy(other.writes, 0, writes, 0, writes.length);
            eldest = other.eldest;
            waits = other.waits;
            deep = other.deep;
            time = other.time;
        }

        int slotsThere() {
            return 1 << deep;
        }

        int ownerOf(int slot) {
            return slot >= 0 && slot < SLOTS ? owners[slot] : NONE;
        }

        void setOwner(int slot, int bucket) {
            if (slot >= 0 && slot < SLOTS) {
                owners[slot] = bucket;
            }
        }

        int keysThere() {
            int keys = 0;
            for (int b = 0; b < BUCKETS; b++) {
                keys += buckets.many(b);
            }
            return keys;
        }

        int soughtIn(int key, Rules rules) {
            return ownerOf(rules.hashOf(key) & SLOTS - 1);
        }

        int valueOf(int key, Rules rules) {
            int bucket = soughtIn(key, rules);
            int at = buckets.find(bucket, key);
            return at == NONE ? NONE : buckets.valueAt(bucket, at);
        }

        boolean isBarred(int key, Rules rules) {
            return rules.bars(key, this, soughtIn(key, rules));
        }

        int placeKey(int key, int value, Rules rules) {
            if (!isKey(key) || value < 0 || value > MOST_VALUE) {
                return BAD_NUMBER;
            }
            int bucket = soughtIn(key, rules);
            int at = buckets.find(bucket, key);
            if (at != NONE) {
                buckets.setKey(bucket, at, key, value);
                queueWrite(bucket, rules);
                return 0;
            }
            if (isBarred(key, rules)) {
                return CANT_BE;
            }
            int needed = splitsNeeded(bucket, rules.hashOf(key), rules);
            if (needed < 0) {
                return NO_ROOM;
            }
            for (int i = 0; i < needed; i++) {
                int old = soughtIn(key, rules);
                int born = splitBucket(old, rules);
                queueWrite(born, rules);
                queueWrite(old, rules);
            }
            bucket = soughtIn(key, rules);
            buckets.append(bucket, key, value);
            queueWrite(bucket, rules);
            return needed;
        }

        /**
         * How many splits make room for one more hash in a bucket: a full one splits until a bit parts
         * the hash from one of its keys. NO_ROOM where the depth or the buckets end before.
         */
        int splitsNeeded(int bucket, int hash, Rules rules) {
            if (buckets.many(bucket) < BUCKET_KEYS) {
                return 0;
            }
            int differing = 0;
            for (int i = 0; i < BUCKET_KEYS; i++) {
                differing |= hash ^ rules.hashOf(buckets.keyAt(bucket, i));
            }
            int depth = buckets.depth(bucket);
            for (int bit = depth; bit < MOST_DEPTH; bit++) {
                if ((differing >> bit & 1) != 0) {
                    int needed = bit - depth + 1;
                    return buckets.usedCount() + needed <= BUCKETS ? needed : NO_ROOM;
                }
            }
            return NO_ROOM;
        }

        /** Splits a bucket that may be split; tells the new one. */
        int splitBucket(int old, Rules rules) {
            int born = buckets.lowestFree();
            if (born == NONE) {
                return old;
            }
            int depth = buckets.depth(old);
            int prefix = buckets.prefix(old);
            buckets.clear(born);
            buckets.setPlace(born, depth + 1, prefix + (1 << depth));
            buckets.setPlace(old, depth + 1, prefix);
            int i = 0;
            for (int looked = 0; looked < BUCKET_KEYS && i < buckets.many(old); looked++) {
                int key = buckets.keyAt(old, i);
                if ((rules.hashOf(key) >> depth & 1) == 1) {
                    buckets.append(born, key, buckets.valueAt(old, i));
                    buckets.removeAt(old, i);
                } else {
                    i++;
                }
            }
            giveSlots(born, born);
            deep = Math.max(deep, depth + 1);
            return born;
        }

        void giveSlots(int from, int to) {
            int step = 1 << buckets.depth(from);
            for (int i = buckets.prefix(from); i < SLOTS; i += step) {
                setOwner(i, to);
            }
        }

        int removeKey(int key, Rules rules) {
            if (!isKey(key)) {
                return BAD_NUMBER;
            }
            int bucket = soughtIn(key, rules);
            int at = buckets.find(bucket, key);
            if (at == NONE) {
                return CANT_BE;
            }
            buckets.removeAt(bucket, at);
            queueWrite(bucket, rules);
            int joined = 0;
            for (int i = 0; i < MOST_DEPTH; i++) {
                int twin = twinOf(bucket);
                if (twin == NONE || buckets.many(bucket) + buckets.many(twin) > BUCKET_KEYS) {
                    break;
                }
                boolean isLower = buckets.prefix(bucket) < buckets.prefix(twin);
                int lower = isLower ? bucket : twin;
                int upper = isLower ? twin : bucket;
                joinTwins(lower, upper);
                queueWrite(lower, rules);
                queueWrite(upper, rules);
                bucket = lower;
                joined++;
            }
            deep = buckets.greatestDepth();
            return joined;
        }

        int twinOf(int bucket) {
            int depth = buckets.depth(bucket);
            if (!buckets.isUsed(bucket) || depth == 0) {
                return NONE;
            }
            int other = ownerOf(buckets.prefix(bucket) ^ 1 << depth - 1);
            return buckets.depth(other) == depth ? other : NONE;
        }

        void joinTwins(int lower, int upper) {
            giveSlots(upper, lower);
            for (int i = 0; i < buckets.many(upper); i++) {
                buckets.append(lower, buckets.keyAt(upper, i), buckets.valueAt(upper, i));
            }
            buckets.clear(upper);
            buckets.setPlace(lower, buckets.depth(lower) - 1, buckets.prefix(lower));
        }

        void queueWrite(int bucket, Rules rules) {
            if (!isBucket(bucket)) {
                return;
            }
            int cost = rules.costOf(rules.inForce, this, bucket);
            if (waits == MOST_WRITES) {
                doEldest();
            }
            int at = writeAt(waits);
            writes[at] = bucket;
            writes[at + WRITE_COST] = cost;
            System.arraycopy(buckets.cells, bucket * CELLS, writes, at + WRITE_PAGE, CELLS);
            waits++;
            time = Math.min(time + 1, MOST_TIME);
        }

        int writeAt(int i) {
            return (eldest + i) % MOST_WRITES * WRITE_CELLS;
        }

        void doEldest() {
            int at = writeAt(0);
            int bucket = writes[at];
            if (isBucket(bucket)) {
                System.arraycopy(writes, at + WRITE_PAGE, disk.cells, bucket * CELLS, CELLS);
            }
            eldest = (eldest + 1) % MOST_WRITES;
            waits--;
        }

        int tellWrite(int i, int what) {
            if (i < 0 || i >= waits) {
                return NONE;
            }
            int at = writeAt(i);
            switch (what) {
                case 0:
                    return writes[at];
                case 1:
                    return writes[at + WRITE_COST];
                case 2:
                    return writes[at + WRITE_PAGE + USED] == 0 ? NONE : writes[at + WRITE_PAGE + MANY];
                default:
                    return NONE;
            }
        }

        int costOfWaiting() {
            int cost = 0;
            for (int i = 0; i < waits; i++) {
                cost += writes[writeAt(i) + WRITE_COST];
            }
            return cost;
        }

        int doWrites(int n) {
            if (n < 0) {
                return BAD_NUMBER;
            }
            if (n > waits) {
                return CANT_BE;
            }
            for (int i = 0; i < n; i++) {
                doEldest();
            }
            return waits;
        }

        int losePower(int n, Rules rules) {
            int left = doWrites(n);
            if (left < 0) {
                return left;
            }
            waits = 0;
            findOwners();
            buckets.copyFrom(disk);
            for (int b = 0; b < BUCKETS; b++) {
                if (disk.isUsed(b)) {
                    rebuildBucket(b, rules);
                }
            }
            disk.copyFrom(buckets);
            deep = buckets.greatestDepth();
            return keysThere();
        }

        /** Each slot goes to the deepest page that claims it. */
        void findOwners() {
            Arrays.fill(owners, NONE);
            for (int b = 0; b < BUCKETS; b++) {
                if (!disk.isUsed(b)) {
                    continue;
                }
                int step = 1 << disk.depth(b);
                for (int i = disk.prefix(b); i < SLOTS; i += step) {
                    int other = ownerOf(i);
                    if (other == NONE || disk.depth(other) < disk.depth(b)) {
                        setOwner(i, b);
                    }
                }
            }
        }

        void rebuildBucket(int bucket, Rules rules) {
            int lowest = NONE;
            int share = 0;
            int step = 1 << disk.depth(bucket);
            for (int i = disk.prefix(bucket); i < SLOTS; i += step) {
                if (ownerOf(i) == bucket) {
                    lowest = share == 0 ? i : lowest;
                    share++;
                }
            }
            buckets.clear(bucket);
            if (share == 0) {
                return;
            }
            int depth = MOST_DEPTH;
            for (int slots = 1; slots < share; slots *= 2) {
                depth--;
            }
            buckets.setPlace(bucket, depth, lowest);
            for (int i = 0; i < disk.many(bucket); i++) {
                int key = disk.keyAt(bucket, i);
                if (soughtIn(key, rules) == bucket) {
                    buckets.append(bucket, key, disk.valueAt(bucket, i));
                }
            }
        }

        int keysNotAlike(Store other, Rules rules) {
            int differing = 0;
            for (int b = 0; b < BUCKETS; b++) {
                for (int i = 0; i < buckets.many(b); i++) {
                    if (other.valueOf(buckets.keyAt(b, i), rules) != buckets.valueAt(b, i)) {
                        differing++;
                    }
                }
            }
            return differing;
        }

        int slotsNotAlike(Store other) {
            int both = Math.min(slotsThere(), other.slotsThere());
            int differing = Math.max(slotsThere(), other.slotsThere()) - both;
            for (int i = 0; i < both; i++) {
                if (ownerOf(i) != other.ownerOf(i)) {
                    differing++;
                }
            }
            return differing;
        }

        boolean wouldSplit(int key, Rules rules) {
            int bucket = soughtIn(key, rules);
            return buckets.find(bucket, key) == NONE
                && splitsNeeded(bucket, rules.hashOf(key), rules) > 0
                && !isBarred(key, rules);
        }

        /**
         * How many buckets the keys would use by a salt; more than there are, if one finds no room.
         * Just those prefixes that more than three keys share are split, in whatever order they come.
         */
        int bucketsBySalt(int salt, int[] counts) {
            Arrays.fill(counts, 0);
            for (int b = 0; b < BUCKETS; b++) {
                for (int i = 0; i < buckets.many(b); i++) {
                    int slot = Rules.hashBy(buckets.keyAt(b, i), salt) & SLOTS - 1;
                    counts[slot]++;
                    if (counts[slot] > BUCKET_KEYS) {
                        return BUCKETS + 1;
                    }
                }
            }
            int needed = 1;
            for (int half = SLOTS / 2; half > 0; half /= 2) {
                for (int i = 0; i < half; i++) {
                    counts[i] += counts[i + half];
                    needed += counts[i] > BUCKET_KEYS ? 1 : 0;
                }
            }
            return needed;
        }
    }

    /** The terms but the time, and the laws. */
    private static final class Rules {
        final Text[] laws = new Text[MOST_LAWS];
        final int[] words = new int[LAW_WORDS];
        final int[] stack = new int[STACK];
        int lawCount = 0;
        int inForce = NONE;
        int fails = 1;
        int mood = 0;
        int salt = 0;

        void copyFrom(Rules other) {
            for (int i = 0; i < MOST_LAWS; i++) {
                laws[i] = other.laws[i];
            }
            lawCount = other.lawCount;
            inForce = other.inForce;
            fails = other.fails;
            mood = other.mood;
            salt = other.salt;
        }

        static int hashBy(int key, int salt) {
            return (421 * key + salt) % 1024;
        }

        int hashOf(int key) {
            return hashBy(key, salt);
        }

        int addLaw(Text law) {
            laws[lawCount] = law;
            lawCount++;
            return lawCount - 1;
        }

        Text textOf(int law) {
            return law >= 0 && law < lawCount ? laws[law] : null;
        }

        void fillWords(Store store, int bucket, int key, int hash) {
            words[0] = bucket;
            words[1] = store.buckets.cell(bucket, USED) != 0 ? store.buckets.cell(bucket, DEPTH) : NONE;
            words[2] = store.buckets.cell(bucket, MANY);
            words[3] = key;
            words[4] = hash;
            words[5] = store.time;
            words[6] = mood;
        }

        int costOf(int law, Store store, int bucket) {
            Text text = textOf(law);
            if (text == null) {
                return 1;
            }
            fillWords(store, bucket, NONE, NONE);
            for (int c = text.clauseCount - 1; c >= 0; c--) {
                if (text.cell(c, KIND) == COSTS && text.worth(c, TEST, words, stack) == 1) {
                    int sum = text.worth(c, FIRST, words, stack);
                    if (sum != BROKEN) {
                        return Math.max(0, Math.min(sum, 99));
                    }
                }
            }
            return 1;
        }

        boolean bars(int key, Store store, int bucket) {
            Text text = textOf(inForce);
            if (text == null) {
                return false;
            }
            fillWords(store, bucket, key, hashOf(key));
            for (int c = 0; c < text.clauseCount; c++) {
                if (text.cell(c, KIND) == BARS && text.worth(c, TEST, words, stack) == 1) {
                    return true;
                }
            }
            return false;
        }
    }

    /** What was seen of a bucket that nobody knows. */
    private static final class Sightings {
        final int[] slots = new int[MOST_SEEN];
        final int[] are = new int[MOST_SEEN];
        int many = 0;

        void copyFrom(Sightings other) {
            System.arraycopy(other.slots, 0, slots, 0, MOST_SEEN);
            System.arraycopy(other.are, 0, are, 0, MOST_SEEN);
            many = other.many;
        }

        int add(int slot, int is) {
            slots[many] = slot;
            are[many] = is;
            many++;
            return many;
        }

        int candidates(Store store) {
            int bits = 0;
            for (int b = 0; b < BUCKETS; b++) {
                if (store.buckets.isUsed(b) && fits(store, b)) {
                    bits |= 1 << b;
                }
            }
            return bits;
        }

        private boolean fits(Store store, int bucket) {
            for (int i = 0; i < many; i++) {
                boolean isOfIt = slots[i] < store.slotsThere() && store.ownerOf(slots[i]) == bucket;
                if (isOfIt != (are[i] == 1)) {
                    return false;
                }
            }
            return true;
        }
    }

    /** The latest acts, each with the file as it was ahead of it. Rows are made once and used again. */
    private static final class History {
        final Store[] kept = new Store[MOST_UNDONE];
        final int[] kinds = new int[MOST_UNDONE];
        Store spare = null;
        int many = 0;

        void clear() {
            many = 0;
        }

        void prepare(Store store) {
            if (spare == null) {
                spare = new Store();
            }
            spare.copyFrom(store);
        }

        void commit(int kind) {
            spare = keep(spare, kind);
        }

        /** Takes a row in and hands out one that is free in its place, or null. */
        private Store keep(Store row, int kind) {
            Store free = kept[many == MOST_UNDONE ? 0 : many];
            if (many == MOST_UNDONE) {
                for (int i = 1; i < MOST_UNDONE; i++) {
                    kept[i - 1] = kept[i];
                    kinds[i - 1] = kinds[i];
                }
                many--;
            }
            kept[many] = row;
            kinds[many] = kind;
            many++;
            return free;
        }

        void takeOver(History other) {
            for (int i = 0; i < other.many; i++) {
                other.kept[i] = keep(other.kept[i], other.kinds[i]);
            }
            other.many = 0;
        }

        /** Which kind of act was taken back. */
        int takeBack(Store store) {
            if (many == 0 || kept[many - 1] == null) {
                return NONE;
            }
            many--;
            store.copyFrom(kept[many]);
            return kinds[many];
        }
    }

    private static final class Image {
        final Store store = new Store();
        final Rules rules = new Rules();
        final Sightings sightings = new Sightings();
    }

    /** A text as it was understood: its clauses, and the code of their sums and tests. */
    private static final class Text {
        final int[] ops;
        final int[] args;
        final int[] clauses;
        // Of orders: a key the value of which is asked, or KEYS and a bucket.
        final int[] asked;
        int size = 0;
        int clauseCount = 0;
        int askedCount = 0;

        Text() {
            ops = new int[MOST_BYTES];
            args = new int[MOST_BYTES];
            clauses = new int[MOST_CLAUSES * CLAUSE_CELLS];
            asked = new int[MOST_PARTS];
        }

        /** A copy that is no longer than it must be. */
        Text(Text other) {
            ops = Arrays.copyOf(other.ops, other.size);
            args = Arrays.copyOf(other.args, other.size);
            clauses = Arrays.copyOf(other.clauses, other.clauseCount * CLAUSE_CELLS);
            asked = Arrays.copyOf(other.asked, other.askedCount);
            size = other.size;
            clauseCount = other.clauseCount;
            askedCount = other.askedCount;
        }

        void clear() {
            size = 0;
            clauseCount = 0;
            askedCount = 0;
        }

        int cell(int clause, int place) {
            int at = clause * CLAUSE_CELLS + place;
            return at >= 0 && at < clauses.length ? clauses[at] : 0;
        }

        /** Of the clause that is being read. */
        void setCell(int place, int told) {
            int at = clauseCount * CLAUSE_CELLS + place;
            if (at >= 0 && at < clauses.length) {
                clauses[at] = told;
            }
        }

        /** Each token gives one step of code at most, so that there is always room. */
        void emit(int op, int arg) {
            if (size < ops.length) {
                ops[size] = op;
                args[size] = arg;
                size++;
            }
        }

        /** A step that may skip goes on behind what has been emitted by now. */
        void aim(int step) {
            if (step >= 0 && step < size) {
                args[step] = size;
            }
        }

        /** What a part of a clause comes to; a part that is not there is so. */
        int worth(int clause, int part, int[] words, int[] stack) {
            int from = Math.max(cell(clause, part), 0);
            int to = Math.min(cell(clause, part + 1), size);
            int top = 0;
            for (int i = from; i < to && top < stack.length; i++) {
                int op = ops[i];
                int arg = args[i];
                if (op == OP_NUMBER) {
                    stack[top] = arg;
                    top++;
                } else if (op == OP_WORD) {
                    stack[top] = arg >= 0 && arg < words.length ? words[arg] : NONE;
                    top++;
                } else if (top == 0) {
                    return BROKEN;
                } else if (op == OP_NOT) {
                    stack[top - 1] = 1 - stack[top - 1];
                } else if (op == OP_AND || op == OP_OR) {
                    boolean isSettled = stack[top - 1] == (op == OP_OR ? 1 : 0);
                    top -= isSettled ? 0 : 1;
                    i = isSettled ? Math.max(i, arg - 1) : i;
                } else if (top == 1) {
                    return BROKEN;
                } else {
                    top--;
                    stack[top - 1] = combine(op, stack[top - 1], stack[top]);
                    if (stack[top - 1] == BROKEN) {
                        return BROKEN;
                    }
                }
            }
            return top == 0 ? 1 : stack[0];
        }

        private static int combine(int op, long left, long right) {
            long result;
            switch (op) {
                case OP_ADD:
                    result = left + right;
                    break;
                case OP_TAKE:
                    result = left - right;
                    break;
                case OP_TIMES:
                    result = left * right;
                    break;
                case OP_DIVIDE:
                    result = right == 0 ? BROKEN : left / right;
                    break;
                case OP_REST:
                    result = right == 0 ? BROKEN : left % right;
                    break;
                case OP_LESS:
                    result = left < right ? 1 : 0;
                    break;
                case OP_MORE:
                    result = left > right ? 1 : 0;
                    break;
                default:
                    result = left == right ? 1 : 0;
                    break;
            }
            return result < -BOUND || result > BOUND ? BROKEN : (int) result;
        }
    }

    /**
     * The tape, and the reading of a text of either language on it by descent. A method that can't go on
     * answers false and leaves the token where it is, so that the fault is always at the token that stands.
     */
    private static final class Tape {
        private static final int BLANK = 32;
        // A token's kind: one of these, or else the single byte itself.
        private static final int END = -1;
        private static final int LETTERS = -2;
        private static final int DIGITS = -3;

        final Text text = new Text();
        final int[] bytes = new int[MOST_BYTES];
        int fed = 0;
        private int length = 0;
        private boolean isOrders = false;
        private int parts = 0;
        private int kind = END;
        private int start = 0;
        private int after = 0;
        private int number = 0;

        void addBytes(int four) {
            for (int shift = 24; shift >= 0 && fed < MOST_BYTES; shift -= 8) {
                bytes[fed] = four >>> shift & 255;
                fed++;
            }
        }

        /** The tape is empty then; its bytes stay where they are until the next are fed, to be read. */
        int take() {
            length = fed;
            fed = 0;
            return length;
        }

        /** Where the fault is of what was taken; NONE without. */
        int readText(boolean ofOrders) {
            isOrders = ofOrders;
            parts = 0;
            after = 0;
            text.clear();
            next();
            boolean isGood = readClause();
            for (int i = 1; isGood && kind == ';' && i <= MOST_CLAUSES; i++) {
                next();
                isGood = i < MOST_CLAUSES && readClause();
            }
            return isGood && kind == END ? NONE : start;
        }

        private void next() {
            start = after;
            while (start < length && bytes[start] == BLANK) {
                start++;
            }
            after = start;
            number = 0;
            if (start >= length) {
                kind = END;
            } else if (bytes[start] >= 'a' && bytes[start] <= 'z') {
                kind = LETTERS;
                while (after < length && bytes[after] >= 'a' && bytes[after] <= 'z') {
                    after++;
                }
            } else if (bytes[start] >= '0' && bytes[start] <= '9') {
                kind = DIGITS;
                while (after < length && bytes[after] >= '0' && bytes[after] <= '9') {
                    // Beyond what is allowed anyway the number need not grow.
                    number = Math.min(number * 10 + bytes[after] - '0', MOST_NUMBER + 1);
                    after++;
                }
            } else {
                kind = bytes[start];
                after++;
            }
        }

        private boolean isWord(String word) {
            if (kind != LETTERS || after - start != word.length()) {
                return false;
            }
            for (int i = 0; i < word.length(); i++) {
                if (bytes[start + i] != word.charAt(i)) {
                    return false;
                }
            }
            return true;
        }

        private boolean passWord(String word) {
            boolean isThere = isWord(word);
            if (isThere) {
                next();
            }
            return isThere;
        }

        private boolean passSign(char sign) {
            boolean isThere = kind == sign;
            if (isThere) {
                next();
            }
            return isThere;
        }

        private boolean readClause() {
            for (int cell = 0; cell < CLAUSE_CELLS; cell++) {
                text.setCell(cell, 0);
            }
            boolean isGood = isOrders ? readOrder() : readRule();
            if (isGood && passWord("if")) {
                text.setCell(TEST, text.size);
                isGood = readTest(0);
                text.setCell(TEST + 1, text.size);
            }
            if (isGood) {
                text.clauseCount++;
            }
            return isGood;
        }

        private boolean readRule() {
            if (passWord("bars")) {
                text.setCell(KIND, BARS);
                return true;
            }
            text.setCell(KIND, COSTS);
            return passWord("costs") && readSumPart(FIRST);
        }

        private boolean readOrder() {
            boolean isGood;
            if (passWord("put")) {
                text.setCell(KIND, PUT);
                isGood = readSumPart(FIRST) && passWord("as") && readSumPart(SECOND);
            } else if (passWord("drop")) {
                text.setCell(KIND, DROP);
                isGood = readSumPart(FIRST);
            } else if (passWord("flush")) {
                text.setCell(KIND, FLUSH);
                isGood = readSumPart(FIRST);
            } else {
                text.setCell(KIND, CRASH);
                isGood = passWord("crash") && readSumPart(FIRST);
            }
            text.setCell(TIMES, 1);
            if (isGood && passWord("times")) {
                isGood = kind == DIGITS && number >= 1 && number <= MOST_TIMES;
                text.setCell(TIMES, number);
                if (isGood) {
                    next();
                }
            }
            return isGood;
        }

        private boolean readSumPart(int part) {
            text.setCell(part, text.size);
            boolean isGood = readSum(0);
            text.setCell(part + 1, text.size);
            return isGood;
        }

        private boolean readTest(int brackets) {
            boolean isGood = readBoth(brackets);
            for (int i = 0; i < MOST_BYTES && isGood && passWord("or"); i++) {
                int skip = text.size;
                text.emit(OP_OR, 0);
                isGood = readBoth(brackets);
                text.aim(skip);
            }
            return isGood;
        }

        private boolean readBoth(int brackets) {
            boolean isGood = readPlain(brackets);
            for (int i = 0; i < MOST_BYTES && isGood && passWord("and"); i++) {
                int skip = text.size;
                text.emit(OP_AND, 0);
                isGood = readPlain(brackets);
                text.aim(skip);
            }
            return isGood;
        }

        /** A row of "not" is counted, not descended into: it may be longer than calls should go deep. */
        private boolean readPlain(int brackets) {
            boolean isTurned = false;
            for (int i = 0; i < MOST_BYTES && passWord("not"); i++) {
                isTurned = !isTurned;
            }
            boolean isGood;
            if (kind == '(') {
                isGood = brackets < MOST_BRACKETS && passSign('(') && readTest(brackets + 1) && passSign(')');
            } else {
                isGood = readSum(brackets);
                int op = kind == '<' ? OP_LESS : kind == '>' ? OP_MORE : OP_SAME;
                isGood = isGood && (passSign('<') || passSign('>') || passSign('=')) && readSum(brackets);
                text.emit(op, 0);
            }
            if (isGood && isTurned) {
                text.emit(OP_NOT, 0);
            }
            return isGood;
        }

        private boolean readSum(int brackets) {
            boolean isGood = readTerm(brackets);
            for (int i = 0; i < MOST_BYTES && isGood && (kind == '+' || kind == '-'); i++) {
                int op = kind == '+' ? OP_ADD : OP_TAKE;
                next();
                isGood = readTerm(brackets);
                text.emit(op, 0);
            }
            return isGood;
        }

        private boolean readTerm(int brackets) {
            boolean isGood = readPart(brackets);
            for (int i = 0; i < MOST_BYTES && isGood && (kind == '*' || kind == '/' || kind == '%'); i++) {
                int op = kind == '*' ? OP_TIMES : kind == '/' ? OP_DIVIDE : OP_REST;
                next();
                isGood = readPart(brackets);
                text.emit(op, 0);
            }
            return isGood;
        }

        private boolean readPart(int brackets) {
            if (kind == '[') {
                return brackets < MOST_BRACKETS && passSign('[') && readSum(brackets + 1) && passSign(']');
            }
            if (parts == MOST_PARTS) {
                return false;
            }
            parts++;
            if (kind == DIGITS && number <= MOST_NUMBER) {
                text.emit(OP_NUMBER, number);
                next();
                return true;
            }
            if (isOrders && passWord("value")) {
                return readAsked(0, KEYS);
            }
            if (isOrders && passWord("many")) {
                return readAsked(KEYS, BUCKETS);
            }
            int word = isOrders ? orderWord() : lawWord();
            if (word == NONE) {
                return false;
            }
            text.emit(OP_WORD, word);
            next();
            return true;
        }

        private boolean readAsked(int base, int bound) {
            if (kind != DIGITS || number >= bound || text.askedCount >= MOST_PARTS) {
                return false;
            }
            text.asked[text.askedCount] = base + number;
            text.emit(OP_WORD, ORDER_WORDS + text.askedCount);
            text.askedCount++;
            next();
            return true;
        }

        private int lawWord() {
            return isWord("bucket") ? 0
                : isWord("depth") ? 1
                : isWord("many") ? 2
                : isWord("key") ? 3
                : isWord("hash") ? 4
                : isWord("time") ? 5
                : isWord("mood") ? 6
                : NONE;
        }

        private int orderWord() {
            return isWord("time") ? WORD_TIME
                : isWord("done") ? WORD_DONE
                : isWord("latest") ? WORD_LATEST
                : isWord("deep") ? WORD_DEEP
                : isWord("waits") ? WORD_WAITS
                : isWord("keys") ? WORD_KEYS
                : NONE;
        }
    }
}
