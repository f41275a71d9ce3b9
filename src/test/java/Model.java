import java.util.ArrayList;
import java.util.Arrays;
import java.util.List;

/**
 * The document once more, as literally and as slowly as it can be said: buckets are searched for, acts are
 * tried on copies, texts are trees. RandomRunsTest holds the program against it.
 */
final class Model {
    static final class Refused extends RuntimeException {
        final int why;

        Refused(int why) {
            super(null, null, false, false);
            this.why = why;
        }
    }

    static final class Broken extends RuntimeException {
        Broken() {
            super(null, null, false, false);
        }
    }

    static final class Bucket {
        boolean used;
        int depth;
        int prefix;
        List<int[]> pairs = new ArrayList<>();

        Bucket copy() {
            Bucket c = new Bucket();
            c.used = used;
            c.depth = depth;
            c.prefix = prefix;
            for (int[] p : pairs) {
                c.pairs.add(p.clone());
            }
            return c;
        }
    }

    static final class Write {
        int bucket;
        int cost;
        Bucket page;
    }

    static Bucket[] copyAll(Bucket[] from) {
        Bucket[] to = new Bucket[24];
        for (int i = 0; i < 24; i++) {
            to[i] = from[i].copy();
        }
        return to;
    }

    /** Buckets, DEEP, the disk, writes, TIME; asks the model around it for SALT and LAW. */
    final class File {
        Bucket[] buckets = new Bucket[24];
        Bucket[] disk = new Bucket[24];
        List<Write> writes = new ArrayList<>();
        int deep;
        int time;
        int saltHere = -1;
        boolean lawless;

        File() {
            for (int i = 0; i < 24; i++) {
                buckets[i] = new Bucket();
                disk[i] = new Bucket();
            }
            buckets[0].used = true;
            disk[0].used = true;
        }

        File copy() {
            File c = new File();
            c.buckets = copyAll(buckets);
            c.disk = copyAll(disk);
            // a write never changes once it waits
            c.writes = new ArrayList<>(writes);
            c.deep = deep;
            c.time = time;
            c.saltHere = saltHere;
            c.lawless = lawless;
            return c;
        }

        void become(File other) {
            File c = other.copy();
            buckets = c.buckets;
            disk = c.disk;
            writes = c.writes;
            deep = c.deep;
            time = c.time;
        }

        int hash(int key) {
            return (421 * key + (saltHere >= 0 ? saltHere : terms[3])) % 1024;
        }

        int slotOf(int i) {
            if (i < 0 || i >= 1 << deep) {
                return -1;
            }
            int found = -1;
            for (int b = 0; b < 24; b++) {
                if (buckets[b].used && i % (1 << buckets[b].depth) == buckets[b].prefix) {
                    if (found >= 0) {
                        throw new IllegalStateException("a slot of two buckets");
                    }
                    found = b;
                }
            }
            if (found < 0) {
                throw new IllegalStateException("a slot of no bucket");
            }
            return found;
        }

        int sought(int key) {
            return slotOf(hash(key) % (1 << deep));
        }

        int[] pair(int key) {
            for (int[] p : buckets[sought(key)].pairs) {
                if (p[0] == key) {
                    return p;
                }
            }
            return null;
        }

        int valueOf(int key) {
            int[] p = pair(key);
            return p == null ? -1 : p[1];
        }

        List<Integer> keys() {
            List<Integer> all = new ArrayList<>();
            for (Bucket b : buckets) {
                if (b.used) {
                    for (int[] p : b.pairs) {
                        all.add(p[0]);
                    }
                }
            }
            all.sort(null);
            return all;
        }

        int used() {
            int n = 0;
            for (Bucket b : buckets) {
                n += b.used ? 1 : 0;
            }
            return n;
        }

        void written(int b) {
            Write w = new Write();
            w.bucket = b;
            w.cost = lawless ? 1 : costBy(lawOf(inForce), this, b);
            w.page = buckets[b].copy();
            writes.add(w);
            if (writes.size() > 40) {
                doEldest();
            }
            time = Math.min(999, time + 1);
        }

        void doEldest() {
            Write w = writes.remove(0);
            disk[w.bucket] = w.page.copy();
        }

        int put(int key, int value) {
            if (key < 0 || key > 999 || value < 0 || value > 99) {
                throw new Refused(-1);
            }
            int[] there = pair(key);
            if (there != null) {
                there[1] = value;
                written(sought(key));
                return 0;
            }
            if (!lawless && barred(this, key)) {
                throw new Refused(-3);
            }
            File ahead = copy();
            int splits = 0;
            while (buckets[sought(key)].pairs.size() == 3) {
                if (!split(sought(key))) {
                    become(ahead);
                    throw new Refused(-5);
                }
                splits++;
            }
            buckets[sought(key)].pairs.add(new int[] {key, value});
            written(sought(key));
            return splits;
        }

        boolean split(int one) {
            Bucket old = buckets[one];
            int d = old.depth;
            int free = 0;
            while (free < 24 && buckets[free].used) {
                free++;
            }
            if (d == 6 || free == 24) {
                return false;
            }
            if (d == deep) {
                deep++;
            }
            Bucket born = new Bucket();
            born.used = true;
            born.depth = d + 1;
            born.prefix = old.prefix + (1 << d);
            List<int[]> stay = new ArrayList<>();
            for (int[] p : old.pairs) {
                (hash(p[0]) / (1 << d) % 2 == 1 ? born.pairs : stay).add(p);
            }
            old.pairs = stay;
            old.depth = d + 1;
            buckets[free] = born;
            written(free);
            written(one);
            return true;
        }

        int twin(int b) {
            Bucket one = buckets[b];
            if (!one.used || one.depth == 0) {
                return -1;
            }
            for (int t = 0; t < 24; t++) {
                Bucket other = buckets[t];
                if (other.used && other.depth == one.depth
                    && (other.prefix ^ one.prefix) == 1 << (one.depth - 1)) {
                    return t;
                }
            }
            return -1;
        }

        int drop(int key) {
            if (key < 0 || key > 999) {
                throw new Refused(-1);
            }
            int[] there = pair(key);
            if (there == null) {
                throw new Refused(-3);
            }
            int one = sought(key);
            buckets[one].pairs.remove(there);
            written(one);
            int joins = 0;
            while (twin(one) >= 0 && buckets[one].pairs.size() + buckets[twin(one)].pairs.size() <= 3) {
                int other = twin(one);
                if (buckets[other].prefix < buckets[one].prefix) {
                    int swap = one;
                    one = other;
                    other = swap;
                }
                buckets[one].depth--;
                buckets[one].pairs.addAll(buckets[other].pairs);
                buckets[other] = new Bucket();
                written(one);
                written(other);
                joins++;
            }
            lowerDeep();
            return joins;
        }

        void lowerDeep() {
            while (deep > 0) {
                for (Bucket b : buckets) {
                    if (b.used && b.depth == deep) {
                        return;
                    }
                }
                deep--;
            }
        }

        int flush(int n) {
            if (n < 0) {
                throw new Refused(-1);
            }
            if (n > writes.size()) {
                throw new Refused(-3);
            }
            for (int i = 0; i < n; i++) {
                doEldest();
            }
            return writes.size();
        }

        int crash(int n) {
            flush(n);
            writes.clear();
            int high = 0;
            for (Bucket p : disk) {
                high = p.used ? Math.max(high, p.depth) : high;
            }
            int[] owner = new int[1 << high];
            for (int i = 0; i < owner.length; i++) {
                owner[i] = -1;
                for (int b = 0; b < 24; b++) {
                    Bucket p = disk[b];
                    if (p.used && i % (1 << p.depth) == p.prefix) {
                        if (owner[i] >= 0 && disk[owner[i]].depth == p.depth) {
                            throw new IllegalStateException("two pages alike");
                        }
                        if (owner[i] < 0 || disk[owner[i]].depth < p.depth) {
                            owner[i] = b;
                        }
                    }
                }
                if (owner[i] < 0) {
                    throw new IllegalStateException("a slot of no page");
                }
            }
            Bucket[] built = new Bucket[24];
            for (int b = 0; b < 24; b++) {
                built[b] = new Bucket();
                int many = 0;
                int lowest = -1;
                for (int i = owner.length - 1; i >= 0; i--) {
                    if (owner[i] == b) {
                        many++;
                        lowest = i;
                    }
                }
                if (many == 0) {
                    continue;
                }
                built[b].used = true;
                built[b].prefix = lowest;
                int depth = 0;
                while (owner.length >> depth != many) {
                    depth++;
                }
                built[b].depth = depth;
                for (int[] p : disk[b].pairs) {
                    if (owner[hash(p[0]) % owner.length] == b) {
                        built[b].pairs.add(p.clone());
                    }
                }
            }
            buckets = built;
            disk = copyAll(built);
            deep = high;
            lowerDeep();
            return keys().size();
        }
    }

    interface Words {
        long worth(String word, int number);
    }

    /** A node of a text's tree: a number, a word, or an operator with its parts. */
    static final class Node {
        String op;
        int number;
        Node left;
        Node right;

        Node(String op, int number, Node left, Node right) {
            this.op = op;
            this.number = number;
            this.left = left;
            this.right = right;
        }

        long eval(Words words) {
            switch (op) {
                case "number":
                    return number;
                case "not":
                    return left.eval(words) == 1 ? 0 : 1;
                case "and":
                    return left.eval(words) == 1 && right.eval(words) == 1 ? 1 : 0;
                case "or":
                    return left.eval(words) == 1 || right.eval(words) == 1 ? 1 : 0;
                default:
                    break;
            }
            if (left == null) {
                return words.worth(op, number);
            }
            long a = left.eval(words);
            long b = right.eval(words);
            switch (op) {
                case "<":
                    return a < b ? 1 : 0;
                case ">":
                    return a > b ? 1 : 0;
                case "=":
                    return a == b ? 1 : 0;
                case "+":
                    return bound(a + b);
                case "-":
                    return bound(a - b);
                case "*":
                    return bound(a * b);
                default:
                    if (b == 0) {
                        throw new Broken();
                    }
                    return op.equals("/") ? a / b : a - a / b * b;
            }
        }

        static long bound(long v) {
            if (Math.abs(v) > 1000000000L) {
                throw new Broken();
            }
            return v;
        }
    }

    static final class Clause {
        String verb;
        Node first;
        Node second;
        int times = 1;
        Node test;

        /** "if" is so, and is not broken. */
        boolean asks(Words words) {
            try {
                return test == null || test.eval(words) == 1;
            } catch (Broken b) {
                return false;
            }
        }
    }

    static final class Fault extends RuntimeException {
        final int place;

        Fault(int place) {
            super(null, null, false, false);
            this.place = place;
        }
    }

    /** All tokens first, then a tree; a Fault is thrown at the first token that can't go on. */
    static final class Parser {
        final List<String> tokens = new ArrayList<>();
        final List<Integer> places = new ArrayList<>();
        final boolean orders;
        int at;
        int parts;
        int open;

        Parser(String text, boolean orders) {
            this.orders = orders;
            int i = 0;
            while (i < text.length()) {
                int from = i;
                String kind = kindOf(text.charAt(i));
                i++;
                if (kind.equals("blank")) {
                    continue;
                }
                while (!kind.equals("other") && i < text.length() && kindOf(text.charAt(i)).equals(kind)) {
                    i++;
                }
                tokens.add(text.substring(from, i));
                places.add(from);
            }
            tokens.add("");
            places.add(text.length());
        }

        static String kindOf(char c) {
            return c == 32 ? "blank" : c >= 'a' && c <= 'z' ? "letters" : c >= '0' && c <= '9' ? "digits" : "other";
        }

        String token() {
            return tokens.get(at);
        }

        Fault fault() {
            return new Fault(places.get(at));
        }

        boolean skip(String t) {
            if (!token().equals(t)) {
                return false;
            }
            at++;
            return true;
        }

        void need(String t) {
            if (!skip(t)) {
                throw fault();
            }
        }

        int number(int low, int high) {
            String t = token();
            if (t.isEmpty() || !kindOf(t.charAt(0)).equals("digits")) {
                throw fault();
            }
            java.math.BigInteger v = new java.math.BigInteger(t);
            if (v.bitLength() > 20 || v.intValue() < low || v.intValue() > high) {
                throw fault();
            }
            at++;
            return v.intValue();
        }

        List<Clause> all() {
            List<Clause> clauses = new ArrayList<>();
            do {
                if (clauses.size() == 12) {
                    throw fault();
                }
                clauses.add(clause());
            } while (skip(";"));
            need("");
            return clauses;
        }

        Clause clause() {
            Clause c = new Clause();
            c.verb = token();
            if (!(orders ? Arrays.asList("put", "drop", "flush", "crash") : Arrays.asList("costs", "bars"))
                .contains(c.verb)) {
                throw fault();
            }
            at++;
            if (!c.verb.equals("bars")) {
                c.first = sum();
            }
            if (c.verb.equals("put")) {
                need("as");
                c.second = sum();
            }
            if (orders && skip("times")) {
                c.times = number(1, 20);
            }
            if (skip("if")) {
                c.test = test();
            }
            return c;
        }

        Node test() {
            Node n = both();
            while (skip("or")) {
                n = new Node("or", 0, n, both());
            }
            return n;
        }

        Node both() {
            Node n = plain();
            while (skip("and")) {
                n = new Node("and", 0, n, plain());
            }
            return n;
        }

        void opens() {
            if (open == 8) {
                throw fault();
            }
            open++;
            at++;
        }

        void closes(String t) {
            need(t);
            open--;
        }

        Node plain() {
            if (skip("not")) {
                return new Node("not", 0, plain(), null);
            }
            if (token().equals("(")) {
                opens();
                Node n = test();
                closes(")");
                return n;
            }
            Node a = sum();
            String op = token();
            if (!op.equals("<") && !op.equals(">") && !op.equals("=")) {
                throw fault();
            }
            at++;
            return new Node(op, 0, a, sum());
        }

        Node sum() {
            Node n = term();
            while (token().equals("+") || token().equals("-")) {
                String op = token();
                at++;
                n = new Node(op, 0, n, term());
            }
            return n;
        }

        Node term() {
            Node n = part();
            while (token().equals("*") || token().equals("/") || token().equals("%")) {
                String op = token();
                at++;
                n = new Node(op, 0, n, part());
            }
            return n;
        }

        Node part() {
            String t = token();
            if (t.equals("[")) {
                opens();
                Node n = sum();
                closes("]");
                return n;
            }
            boolean digits = !t.isEmpty() && kindOf(t.charAt(0)).equals("digits");
            List<String> words = orders
                ? Arrays.asList("time", "done", "latest", "deep", "waits", "keys", "value", "many")
                : Arrays.asList("bucket", "depth", "many", "key", "hash", "time", "mood");
            if (parts == 50 || !digits && !words.contains(t)) {
                throw fault();
            }
            parts++;
            if (digits) {
                return new Node("number", number(0, 1000), null, null);
            }
            at++;
            int number = !orders ? 0 : t.equals("value") ? number(0, 999) : t.equals("many") ? number(0, 23) : 0;
            return new Node(t, number, null, null);
        }
    }

    static final class Saved {
        File file;
        int[] terms;
        List<int[]> seen;
        List<List<Clause>> laws;
        int inForce;
    }

    File file = new File();
    int[] terms = {0, 1, 0, 0};
    List<int[]> seen = new ArrayList<>();
    List<List<Clause>> laws = new ArrayList<>();
    int inForce = -1;
    String tape = "";
    int tears;
    int fault = -1;
    int stopped = -1;
    int status;
    int[] refusals = new int[7];
    List<Integer> undoKinds = new ArrayList<>();
    List<File> undoFiles = new ArrayList<>();
    int[] drawn = new int[40];
    Saved[] images = new Saved[2];

    Model() {
        Arrays.fill(drawn, -1);
    }

    List<Clause> lawOf(int law) {
        return law < 0 ? new ArrayList<>() : laws.get(law);
    }

    static int costBy(List<Clause> law, File f, int b, int mood) {
        Bucket bucket = f.buckets[b];
        int cost = 1;
        for (Clause c : law) {
            Words words = (w, n) -> {
                switch (w) {
                    case "bucket":
                        return b;
                    case "depth":
                        return bucket.used ? bucket.depth : -1;
                    case "many":
                        return bucket.used ? bucket.pairs.size() : 0;
                    case "time":
                        return f.time;
                    case "mood":
                        return mood;
                    default:
                        return -1;
                }
            };
            if (c.verb.equals("costs") && c.asks(words)) {
                try {
                    cost = (int) Math.max(0, Math.min(99, c.first.eval(words)));
                } catch (Broken x) {
                    // it does not hold
                }
            }
        }
        return cost;
    }

    int costBy(List<Clause> law, File f, int b) {
        return costBy(law, f, b, terms[2]);
    }

    boolean barred(File f, int key) {
        int b = f.sought(key);
        Words words = (w, n) -> {
            switch (w) {
                case "bucket":
                    return b;
                case "depth":
                    return f.buckets[b].depth;
                case "many":
                    return f.buckets[b].pairs.size();
                case "key":
                    return key;
                case "hash":
                    return f.hash(key);
                case "time":
                    return f.time;
                default:
                    return terms[2];
            }
        };
        for (Clause c : lawOf(inForce)) {
            if (c.verb.equals("bars") && c.asks(words)) {
                return true;
            }
        }
        return false;
    }

    interface Call {
        int run();
    }

    int told(Call call) {
        try {
            int r = call.run();
            status = 0;
            return r;
        } catch (Refused r) {
            status = r.why;
            refusals[-r.why]++;
            return r.why;
        }
    }

    static int tell(Bucket b, int what) {
        if (what == 0) {
            return b.used ? 1 : 0;
        }
        if (!b.used || what < 0 || what > 9) {
            return -1;
        }
        if (what <= 3) {
            return what == 1 ? b.depth : what == 2 ? b.prefix : b.pairs.size();
        }
        int i = what < 7 ? what - 4 : what - 7;
        return i >= b.pairs.size() ? -1 : b.pairs.get(i)[what < 7 ? 0 : 1];
    }

    int of(int b, int what) {
        return b < 0 || b > 23 ? -1 : tell(file.buckets[b], what);
    }

    int page(int b, int what) {
        return b < 0 || b > 23 ? -1 : tell(file.disk[b], what);
    }

    int write(int i, int what) {
        if (i < 0 || i >= file.writes.size() || what < 0 || what > 2) {
            return -1;
        }
        Write w = file.writes.get(i);
        return what == 0 ? w.bucket : what == 1 ? w.cost : w.page.used ? w.page.pairs.size() : -1;
    }

    int slot(int i) {
        return file.slotOf(i);
    }

    int key(int key, int what) {
        if (key < 0 || key > 999) {
            return -1;
        }
        return what == 0 ? file.hash(key) : what == 1 ? file.valueOf(key) : what == 2 ? file.sought(key)
            : what == 3 ? (barred(file, key) ? 1 : 0) : -1;
    }

    int terms(int what, int value) {
        return told(() -> {
            int[] most = {999, 10, 9, 999};
            if (what < 0 || what > 3 || value < 0 || value > most[what]) {
                throw new Refused(-1);
            }
            if (what == 3 && !file.keys().isEmpty()) {
                throw new Refused(-3);
            }
            int was = what == 0 ? file.time : terms[what];
            if (what == 0) {
                file.time = value;
            } else {
                terms[what] = value;
            }
            noUndo();
            return was;
        });
    }

    void noUndo() {
        undoKinds.clear();
        undoFiles.clear();
    }

    int feed(int a, int b, int c, int d, int e) {
        if (tape.length() > 380) {
            return -1;
        }
        for (int v : new int[] {a, b, c, d, e}) {
            byte[] four = java.nio.ByteBuffer.allocate(4).putInt(v).array();
            for (byte x : four) {
                tape += (char) (x & 255);
            }
        }
        return tape.length();
    }

    int end(int n) {
        if (n < 0 || n > tape.length()) {
            return -1;
        }
        tape = tape.substring(0, n);
        return n;
    }

    String taken() {
        String t = tape;
        tape = "";
        return t;
    }

    int row() {
        return told(() -> {
            String t = taken();
            if (t.isEmpty()) {
                throw new Refused(-6);
            }
            int done = 0;
            int torn = 0;
            for (int i = 0; i < t.length(); i += 2) {
                try {
                    if (i + 1 == t.length()) {
                        throw new Refused(-1);
                    }
                    file.put(t.charAt(i), t.charAt(i + 1));
                    done++;
                } catch (Refused r) {
                    torn++;
                }
            }
            tears = torn;
            noUndo();
            return done;
        });
    }

    List<Clause> understood(String text, boolean orders) {
        try {
            fault = -1;
            return new Parser(text, orders).all();
        } catch (Fault f) {
            fault = f.place;
            throw new Refused(-6);
        }
    }

    int law() {
        return told(() -> {
            String t = taken();
            if (laws.size() == 6) {
                throw new Refused(-5);
            }
            laws.add(understood(t, false));
            return laws.size() - 1;
        });
    }

    int done;
    int latest;

    int orders() {
        return told(() -> {
            String t = taken();
            stopped = -1;
            List<Clause> text = understood(t, true);
            File ahead = file.copy();
            List<Integer> kindsAhead = new ArrayList<>(undoKinds);
            List<File> filesAhead = new ArrayList<>(undoFiles);
            done = 0;
            latest = -1;
            for (int c = 0; c < text.size(); c++) {
                try {
                    for (int i = 0; i < text.get(c).times; i++) {
                        runOrder(text.get(c));
                    }
                } catch (Refused | Broken r) {
                    stopped = c;
                    file = ahead;
                    undoKinds = kindsAhead;
                    undoFiles = filesAhead;
                    throw new Refused(-3);
                }
            }
            return done;
        });
    }

    void runOrder(Clause c) {
        Words words = (w, n) -> {
            switch (w) {
                case "time":
                    return file.time;
                case "done":
                    return done;
                case "latest":
                    return latest;
                case "deep":
                    return file.deep;
                case "waits":
                    return file.writes.size();
                case "keys":
                    return file.keys().size();
                case "value":
                    return file.valueOf(n);
                default:
                    return file.buckets[n].used ? file.buckets[n].pairs.size() : -1;
            }
        };
        if (!c.asks(words)) {
            return;
        }
        int a = (int) c.first.eval(words);
        int b = c.second == null ? 0 : (int) c.second.eval(words);
        int told = act(Arrays.asList("put", "drop", "flush", "crash").indexOf(c.verb), a, b);
        done++;
        if (c.verb.equals("put")) {
            latest = told;
        }
    }

    int act(int kind, int a, int b) {
        File ahead = file.copy();
        int r = kind == 0 ? file.put(a, b) : kind == 1 ? file.drop(a) : kind == 2 ? file.flush(a) : file.crash(a);
        undoKinds.add(kind);
        undoFiles.add(ahead);
        if (undoKinds.size() > 16) {
            undoKinds.remove(0);
            undoFiles.remove(0);
        }
        return r;
    }

    int force(int law) {
        return told(() -> {
            if (law < -1 || law >= laws.size()) {
                throw new Refused(-2);
            }
            int was = inForce;
            inForce = law;
            return was;
        });
    }

    int put(int key, int value) {
        return told(() -> act(0, key, value));
    }

    int drop(int key) {
        return told(() -> act(1, key, 0));
    }

    int flush(int n) {
        return told(() -> act(2, n, 0));
    }

    int crash(int n) {
        return told(() -> act(3, n, 0));
    }

    int undo() {
        return told(() -> {
            if (undoKinds.isEmpty()) {
                throw new Refused(-3);
            }
            file = undoFiles.remove(undoFiles.size() - 1);
            return undoKinds.remove(undoKinds.size() - 1);
        });
    }

    File afterCrash(int n) {
        if (n < 0 || n > file.writes.size()) {
            return null;
        }
        File c = file.copy();
        c.crash(n);
        return c;
    }

    int behind(int n, int key) {
        File c = afterCrash(n);
        return c == null || key < 0 || key > 999 ? -1 : c.valueOf(key);
    }

    int lost(int n) {
        File c = afterCrash(n);
        if (c == null) {
            return -1;
        }
        int many = 0;
        for (int k : file.keys()) {
            many += c.valueOf(k) == file.valueOf(k) ? 0 : 1;
        }
        return many;
    }

    int torn(int n) {
        File c = afterCrash(n);
        if (c == null) {
            return -1;
        }
        int many = 0;
        for (int i = 0; i < 1 << Math.max(c.deep, file.deep); i++) {
            many += c.slotOf(i) == file.slotOf(i) ? 0 : 1;
        }
        return many;
    }

    int splits() {
        int many = 0;
        File c = file.copy();
        for (int k = 0; k < 1000; k++) {
            if (file.valueOf(k) < 0 && file.buckets[file.sought(k)].pairs.size() == 3) {
                try {
                    many += c.put(k, 0) > 0 ? 1 : 0;
                } catch (Refused r) {
                    // it would split none
                }
                c = file.copy();
            }
        }
        return many;
    }

    int room() {
        int many = 0;
        for (Bucket b : file.buckets) {
            many += b.used ? 3 - b.pairs.size() : 0;
        }
        return many;
    }

    int twin(int b) {
        return b < 0 || b > 23 ? -1 : file.twin(b);
    }

    int salts(int what) {
        int best = -1;
        int fewest = 99;
        for (int s = 0; s < 32; s++) {
            File c = new File();
            c.saltHere = s;
            c.lawless = true;
            try {
                for (int k : file.keys()) {
                    c.put(k, 0);
                }
                if (c.used() < fewest) {
                    best = s;
                    fewest = c.used();
                }
            } catch (Refused r) {
                // never this one
            }
        }
        return best < 0 ? -1 : what == 0 ? best : what == 1 ? fewest : -1;
    }

    int spent() {
        int sum = 0;
        for (Write w : file.writes) {
            sum += w.cost;
        }
        return sum;
    }

    int seen(int slot, int is) {
        return told(() -> {
            if (slot < 0 || slot > 63 || is != 0 && is != 1) {
                throw new Refused(-1);
            }
            if (seen.size() == 6) {
                throw new Refused(-5);
            }
            seen.add(new int[] {slot, is});
            return seen.size();
        });
    }

    int forget() {
        int many = seen.size();
        seen.clear();
        return many;
    }

    List<Integer> candidates() {
        List<Integer> all = new ArrayList<>();
        for (int b = 0; b < 24; b++) {
            boolean can = file.buckets[b].used;
            for (int[] s : seen) {
                can &= (file.slotOf(s[0]) == b) == (s[1] == 1);
            }
            if (can) {
                all.add(b);
            }
        }
        return all;
    }

    int canBe() {
        int bits = 0;
        for (int b : candidates()) {
            bits += 1 << b;
        }
        return bits;
    }

    int read(int what) {
        List<Integer> can = candidates();
        if (can.isEmpty() || what < 0 || what > 1) {
            return -1;
        }
        int best = -1;
        int fewest = 99;
        for (int i = 0; i < 1 << file.deep; i++) {
            int of = 0;
            int not = 0;
            for (int b : can) {
                if (file.slotOf(i) == b) {
                    of++;
                } else {
                    not++;
                }
            }
            if (Math.max(of, not) < fewest) {
                best = i;
                fewest = Math.max(of, not);
            }
        }
        return what == 0 ? best : fewest;
    }

    long few(int k, int n) {
        if (k < 1 || k > 20 || n < 0 || n > 99) {
            return -1;
        }
        long[] part = new long[101];
        part[0] = 1000000000000L;
        for (int w = 0; w < n; w++) {
            long[] next = new long[101];
            for (int j = 0; j < 100; j++) {
                next[j] += part[j] * (10 - terms[1]) / 10;
                next[j + 1] += part[j] * terms[1] / 10;
            }
            part = next;
        }
        long sum = 0;
        for (int j = 0; j < k; j++) {
            sum += part[j];
        }
        return sum;
    }

    int compare(int law, int b) {
        return law < -1 || law >= laws.size() || b < 0 || b > 23 ? -1 : costBy(lawOf(law), file, b);
    }

    long s;

    int draw(int m) {
        s = (s * 1103 + 12345) % 1000003;
        return (int) (s % m);
    }

    int years(int seed, int n) {
        return told(() -> {
            if (seed < 0 || seed > 1000000 || n < 1 || n > 60) {
                throw new Refused(-1);
            }
            s = seed;
            File c = file.copy();
            for (int i = 0; i < n; i++) {
                int key = draw(40);
                int value = draw(8);
                int what = draw(8);
                try {
                    if (what < 5) {
                        c.put(key, value);
                    } else if (what < 7) {
                        c.drop(key);
                    } else {
                        c.crash(Math.min(value, c.writes.size()));
                    }
                } catch (Refused r) {
                    // it can't be: nothing
                }
            }
            for (int k = 0; k < 40; k++) {
                drawn[k] = c.valueOf(k);
            }
            return c.keys().size();
        });
    }

    int drawn(int k) {
        return k < 0 || k > 39 ? -1 : drawn[k];
    }

    int image(int k) {
        return told(() -> {
            if (k != 0 && k != 1) {
                throw new Refused(-1);
            }
            Saved i = new Saved();
            i.file = file.copy();
            i.terms = terms.clone();
            i.seen = new ArrayList<>(seen);
            i.laws = new ArrayList<>(laws);
            i.inForce = inForce;
            images[k] = i;
            return 0;
        });
    }

    int back(int k) {
        return told(() -> {
            if (k != 0 && k != 1) {
                throw new Refused(-1);
            }
            Saved i = images[k];
            if (i == null) {
                throw new Refused(-2);
            }
            file = i.file.copy();
            terms = i.terms.clone();
            seen = new ArrayList<>(i.seen);
            laws = new ArrayList<>(i.laws);
            inForce = i.inForce;
            noUndo();
            return 0;
        });
    }

    int count(int what) {
        int[] all = {file.deep, file.used(), file.keys().size(), file.writes.size(), seen.size(), laws.size(),
            undoKinds.size(), tape.length(), refusals[1], refusals[2], refusals[3], refusals[5], refusals[6],
            inForce, file.time, terms[1], terms[2], terms[3]};
        return what < 0 || what >= all.length ? -1 : all[what];
    }
}
