import java.io.IOException;
import java.lang.reflect.InvocationTargetException;
import java.lang.reflect.Method;
import java.nio.file.Files;
import java.nio.file.Path;
import java.util.ArrayList;
import java.util.Comparator;
import java.util.LinkedHashMap;
import java.util.List;
import java.util.Map;
import java.util.TreeMap;

/**
 * What the tests of the document's edges share: it runs every method that has a sentence of the document above
 * it, and looks at all that can be asked of an object ahead of a call and behind it.
 */
abstract class Edges {
    static final int LOW = Integer.MIN_VALUE;
    static final int HIGH = Integer.MAX_VALUE;

    interface Acts {
        void on(Desk x);
    }

    interface Call {
        long on(Desk x);
    }

    private static String test = "";
    private static int wrong = 0;

    /** Runs a class's tests; its program's source, beside which the document is found, is the first argument. */
    static void run(Class<?> tests, String[] args) throws IOException {
        String document = documentBeside(args);
        List<Method> all = new ArrayList<>();
        for (Method m : tests.getDeclaredMethods()) {
            if (m.isAnnotationPresent(Says.class)) {
                all.add(m);
            } else if (m.getParameterCount() == 0 && m.getReturnType() == void.class && !m.isSynthetic()) {
                fail(m.getName() + " has no sentence of the document above it");
            }
        }
        all.sort(Comparator.comparing(Method::getName));
        for (Method m : all) {
            test = m.getName();
            for (String sentence : m.getAnnotation(Says.class).value()) {
                if (!document.contains(plain(sentence))) {
                    fail("the document does not say: " + sentence);
                }
            }
            runOne(m);
        }
        System.out.println(wrong == 0 ? all.size() + " edges hold" : wrong + " answers are not as due");
        if (wrong != 0 || all.isEmpty()) {
            System.exit(1);
        }
    }

    private static void runOne(Method m) {
        try {
            m.setAccessible(true);
            m.invoke(null);
        } catch (InvocationTargetException e) {
            fail("threw " + e.getCause());
        } catch (IllegalAccessException e) {
            fail("can't be run");
        }
    }

    private static String documentBeside(String[] args) throws IOException {
        Path source = Path.of(args.length > 0 ? args[0] : "src/main/java/TwinBuckets.java");
        Path root = source.toAbsolutePath().getParent().getParent().getParent().getParent();
        return plain(Files.readString(root.resolve("../shared/DOC.md")));
    }

    private static String plain(String text) {
        return text.replaceAll("\\s+", " ").trim();
    }

    private static void fail(String what) {
        wrong++;
        System.out.println(test + ": " + what);
    }

    static void due(String call, long got, long want) {
        if (got != want) {
            fail(call + " answered " + got + ", due is " + want);
        }
    }

    /** A file with something of all that an object can have; SALT is 0. */
    static void rich(Desk x) {
        x.terms(1, 3);
        x.terms(2, 4);
        x.under("costs many*10+depth;bars if key=900");
        x.law("costs bucket+1");
        x.row(3, 30, 200, 99, 7, 100);
        x.puts(0, 64, 128, 2);
        x.image(0);
        x.puts(32, 5);
        x.drop(200);
        x.seen(1, 0);
        x.seen(40, 0);
        x.years(5, 10);
        x.flush(3);
        x.law("costs 1 2");
        x.orders("flush 0;drop 998");
        x.put(900, 1);
        x.put(3, 31);
        x.drop(2);
        x.crash(30);
        x.puts(4, 6, 128);
        x.tape("put 1 as 2;drop 5");
    }

    /** The call is refused, the refusal is told and counted, and all else stays as it was. */
    static void refused(String name, Acts ahead, Call call, int why, String... changes) {
        refused(name, ahead, x -> { }, call, why, changes);
    }

    /** The same, but behind the call all is as it is behind these acts, of which none is refused. */
    static void refused(String name, Acts ahead, Acts instead, Call call, int why, String... changes) {
        Map<String, Long> want = look(x -> {
            ahead.on(x);
            instead.on(x);
        });
        String counter = "count(" + new int[] {0, 8, 9, 10, 0, 11, 12}[-why] + ")";
        want.put("status()", (long) why);
        want.put(counter, want.get(counter) + 1);
        for (String change : changes) {
            String[] halves = change.split("=");
            if (want.put(halves[0], Long.parseLong(halves[1])) == null) {
                throw new IllegalStateException("nobody looks at " + halves[0]);
            }
        }
        compare(name, ahead, call, why, want);
    }

    /** The call answers NONE and nothing changes; nor is it counted as refused. */
    static void none(String name, Acts ahead, Call call) {
        asked(name, ahead, call, TwinBuckets.NONE);
    }

    /** The call answers this and nothing changes. */
    static void asked(String name, Acts ahead, Call call, long told) {
        compare(name, ahead, call, told, look(ahead));
    }

    /** The call answers this, and all is as it is behind these acts instead; it is not refused. */
    static void granted(String name, Acts ahead, Acts instead, Call call, long told) {
        Map<String, Long> want = look(x -> {
            ahead.on(x);
            instead.on(x);
        });
        want.put("status()", 0L);
        compare(name, ahead, call, told, want);
    }

    /** All that can be asked is the same behind these acts and behind those. */
    static void alike(String name, Acts acts, Acts others) {
        Map<String, Long> want = look(others);
        for (Map.Entry<String, Long> e : look(acts).entrySet()) {
            due(name + ": " + e.getKey(), e.getValue(), want.get(e.getKey()));
        }
    }

    private static void compare(String name, Acts ahead, Call call, long told, Map<String, Long> want) {
        long[] answer = {Long.MIN_VALUE};
        Map<String, Long> got = look(x -> {
            ahead.on(x);
            answer[0] = call.on(x);
        });
        due(name, answer[0], told);
        for (Map.Entry<String, Long> e : want.entrySet()) {
            if (!got.get(e.getKey()).equals(e.getValue())) {
                due("behind " + name + ": " + e.getKey(), got.get(e.getKey()), e.getValue());
            }
        }
    }

    private static final Map<String, Call> LOOKS = looks();
    private static final Map<String, Call> ENDS = ends();

    /** All that can be asked behind some acts, on as many objects as the calls need. */
    private static Map<String, Long> look(Acts acts) {
        Map<String, Long> told = new LinkedHashMap<>();
        Desk x = null;
        for (Map.Entry<String, Call> look : LOOKS.entrySet()) {
            if (x == null || x.callsLeft() == 0) {
                x = new Desk();
                acts.on(x);
            }
            told.put(look.getKey(), look.getValue().on(x));
        }
        for (Map.Entry<String, Call> end : ENDS.entrySet()) {
            Desk y = new Desk();
            acts.on(y);
            told.put(end.getKey(), end.getValue().on(y));
        }
        return told;
    }

    private static Map<String, Call> looks() {
        Map<String, Call> all = new LinkedHashMap<>();
        for (int i = 0; i < 24; i++) {
            int b = i;
            for (int w = 0; w < 10; w++) {
                int what = w;
                all.put("of(" + b + ", " + what + ")", x -> x.of(b, what));
                all.put("page(" + b + ", " + what + ")", x -> x.page(b, what));
            }
            all.put("twin(" + b + ")", x -> x.twin(b));
            for (int l = -1; l < 6; l++) {
                int law = l;
                all.put("compare(" + law + ", " + b + ")", x -> x.compare(law, b));
            }
        }
        for (int i = 0; i <= 40; i++) {
            int n = i;
            for (int w = 0; w < 3; w++) {
                int what = w;
                all.put("write(" + n + ", " + what + ")", x -> x.write(n, what));
            }
            all.put("lost(" + n + ")", x -> x.lost(n));
            all.put("torn(" + n + ")", x -> x.torn(n));
            for (int k : new int[] {0, 2, 3, 4, 5, 6, 32, 64, 128}) {
                all.put("behind(" + n + ", " + k + ")", x -> x.behind(n, k));
            }
        }
        for (int i = 0; i <= 64; i++) {
            int slot = i;
            all.put("slot(" + slot + ")", x -> x.slot(slot));
        }
        for (int i = 0; i < 1000; i++) {
            int k = i;
            all.put("key(" + k + ", 1)", x -> x.key(k, 1));
            if (k % 60 == 0) {
                all.put("key(" + k + ", 0)", x -> x.key(k, 0));
                all.put("key(" + k + ", 2)", x -> x.key(k, 2));
                all.put("key(" + k + ", 3)", x -> x.key(k, 3));
            }
        }
        for (int i = 0; i < 18; i++) {
            int what = i;
            all.put("count(" + what + ")", x -> x.count(what));
        }
        for (int i = 0; i < 40; i++) {
            int k = i;
            all.put("drawn(" + k + ")", x -> x.drawn(k));
        }
        for (int i = 0; i < 2; i++) {
            int what = i;
            all.put("salts(" + what + ")", x -> x.salts(what));
            all.put("read(" + what + ")", x -> x.read(what));
        }
        all.put("tears()", Desk::tears);
        all.put("fault()", Desk::fault);
        all.put("stopped()", Desk::stopped);
        all.put("splits()", Desk::splits);
        all.put("room()", Desk::room);
        all.put("spent()", Desk::spent);
        all.put("canBe()", Desk::canBe);
        all.put("few(3, 9)", x -> x.few(3, 9));
        all.put("status()", Desk::status);
        return all;
    }

    /** What can be seen only by a call that changes something: each is asked of an object of its own. */
    private static Map<String, Call> ends() {
        Map<String, Call> all = new TreeMap<>();
        all.put("the tape as a row", x -> {
            long sum = x.row() * 31L + x.tears();
            for (int k = 0; k < 256; k++) {
                sum = sum * 31 + x.key(k, 1);
            }
            return sum;
        });
        all.put("the tape as a law", x -> {
            int law = x.law();
            return law * 1000L + (law == -6 ? x.fault() : law < 0 ? 0 : x.compare(law, 0));
        });
        all.put("the tape as orders", x -> sumOf(x, (x.orders() * 1000L + x.fault()) * 31 + x.stopped()));
        all.put("what can be undone", x -> {
            long sum = 0;
            for (int i = 0; i < 17; i++) {
                sum = shortSumOf(x, sum * 31 + x.undo());
            }
            return sum;
        });
        for (int i = 0; i < 2; i++) {
            int k = i;
            all.put("image " + k, x -> sumOf(x, x.back(k)));
        }
        all.put("what was seen", x -> x.forget() * 10L + x.forget());
        return all;
    }

    private static long shortSumOf(Desk x, long start) {
        long sum = start;
        for (int what : new int[] {0, 1, 2, 3, 14}) {
            sum = sum * 31 + x.count(what);
        }
        for (int b = 0; b < 4; b++) {
            sum = (sum * 31 + x.of(b, 3)) * 31 + x.page(b, 3);
        }
        return sum;
    }

    private static long sumOf(Desk x, long start) {
        long sum = start;
        for (int what = 0; what < 18; what++) {
            sum = what >= 8 && what <= 12 ? sum : sum * 31 + x.count(what);
        }
        for (int b = 0; b < 10; b++) {
            for (int what = 0; what < 10; what++) {
                sum = (sum * 31 + x.of(b, what)) * 31 + x.page(b, what);
            }
        }
        return sum * 31 + x.canBe();
    }
}
