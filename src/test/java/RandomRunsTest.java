import java.util.Random;

/**
 * Runs of random calls (the seeds are fixed), each answer held against Model's. A run has at most 512 calls;
 * the looks at the whole state that follow it are on an object whose calls are still counted within that.
 */
public final class RandomRunsTest {
    private static int wrong = 0;

    private final Random random;
    private final TwinBuckets program = new TwinBuckets();
    private final Model model = new Model();
    private final StringBuilder log = new StringBuilder();
    private final long seed;
    private int calls = 0;
    private final int style;

    private RandomRunsTest(long seed) {
        this.seed = seed;
        random = new Random(seed);
        style = random.nextInt(6);
    }

    public static void main(String[] args) {
        int runs = args.length > 1 ? Integer.parseInt(args[1]) : 1500;
        for (long seed = 1; seed <= runs && wrong < 5; seed++) {
            new RandomRunsTest(seed).run();
        }
        System.out.println(wrong == 0 ? runs + " runs are as the model's" : wrong + " answers are not as due");
        if (wrong != 0) {
            System.exit(1);
        }
    }

    private void run() {
        int before = wrong;
        while (calls < 460 && wrong == before) {
            step();
        }
        lookAround();
        if (wrong != before) {
            String all = log.toString();
            System.out.println("run " + seed + ":\n" + all.substring(Math.max(0, all.length() - 6000)));
        }
    }

    private void due(String call, long got, long want) {
        calls++;
        log.append(call).append(" -> ").append(got).append('\n');
        if (got != want) {
            wrong++;
            System.out.println("run " + seed + ", call " + calls + ": " + call + " answered " + got + ", due is " + want);
        }
    }

    private int below(int n) {
        return random.nextInt(n);
    }

    private boolean oneOf(int n) {
        return random.nextInt(n) == 0;
    }

    /** A number in a range, or now and then one at its edges or far outside. */
    private int near(int low, int high) {
        if (oneOf(25)) {
            int[] odd = {low - 1, high + 1, low, high, Integer.MIN_VALUE, Integer.MAX_VALUE, -1, 1 << 30};
            return odd[below(odd.length)];
        }
        return low + below(high - low + 1);
    }

    private int someKey() {
        switch (style) {
            case 0:
                return near(0, 999);
            case 1:
                return near(0, 15) * 64;
            case 2:
                return near(0, 60) * 16;
            case 3:
                return near(0, 11);
            default:
                return near(0, oneOf(3) ? 999 : 70);
        }
    }

    private int someCount() {
        int waits = model.file.writes.size();
        return oneOf(12) ? near(0, 41) : below(waits + 1);
    }

    private void step() {
        int pick = below(100);
        if (pick < 34) {
            int k = someKey();
            int v = near(0, 99);
            due("put(" + k + ", " + v + ")", program.put(k, v), model.put(k, v));
        } else if (pick < 44) {
            java.util.List<Integer> there = model.file.keys();
            int k = there.isEmpty() || oneOf(6) ? someKey() : there.get(below(there.size()));
            due("drop(" + k + ")", program.drop(k), model.drop(k));
        } else if (pick < 48) {
            int n = someCount();
            due("flush(" + n + ")", program.flush(n), model.flush(n));
        } else if (pick < 51) {
            int n = someCount();
            due("crash(" + n + ")", program.crash(n), model.crash(n));
        } else if (pick < 56) {
            due("undo()", program.undo(), model.undo());
        } else if (pick < 62) {
            String text = new Texts(random, true).make();
            feedText(text);
            due("orders() " + text, program.orders(), model.orders());
            due("fault()", program.fault(), model.fault);
            due("stopped()", program.stopped(), model.stopped);
        } else if (pick < 66) {
            String text = new Texts(random, false).make();
            feedText(text);
            due("law() " + text, program.law(), model.law());
            due("fault()", program.fault(), model.fault);
        } else {
            smallStep(pick);
        }
        due("status()", program.status(), model.status);
        if (oneOf(90)) {
            lookAround();
        }
    }

    private void smallStep(int pick) {
        if (pick < 69) {
            int law = near(-1, 5);
            due("force(" + law + ")", program.force(law), model.force(law));
        } else if (pick < 72 && style == 5 && model.file.keys().size() < 430 - calls) {
            saltAnew();
        } else if (pick < 72) {
            int what = near(0, 3);
            int value = what == 1 ? near(0, 10) : what == 2 ? near(0, 9) : near(0, 999);
            if (!oneOf(3)) {
                what = 2;
                value = near(0, 9);
            }
            due("terms(" + what + ", " + value + ")", program.terms(what, value), model.terms(what, value));
        } else if (pick < 74) {
            feedRow();
            due("row()", program.row(), model.row());
            due("tears()", program.tears(), model.tears);
        } else if (pick < 78) {
            int slot = oneOf(4) ? near(0, 63) : near(0, (1 << model.file.deep) - 1);
            int is = oneOf(3) ? near(0, 1) : 0;
            due("seen(" + slot + ", " + is + ")", program.seen(slot, is), model.seen(slot, is));
        } else if (pick < 79) {
            due("forget()", program.forget(), model.forget());
        } else if (pick < 82) {
            int s = near(0, 1000000);
            int n = near(1, 60);
            due("years(" + s + ", " + n + ")", program.years(s, n), model.years(s, n));
        } else if (pick < 83) {
            int k = near(0, 1);
            due("image(" + k + ")", program.image(k), model.image(k));
        } else if (pick < 84) {
            int k = near(0, 1);
            due("back(" + k + ")", program.back(k), model.back(k));
        } else if (pick < 85) {
            int a = random.nextInt();
            due("feed(" + a + ", ..)", program.feed(a, a * 3, ~a, 7, -a), model.feed(a, a * 3, ~a, 7, -a));
        } else if (pick < 86) {
            int n = near(0, model.tape.length());
            due("end(" + n + ")", program.end(n), model.end(n));
        } else {
            ask(pick);
        }
    }

    /** All keys are dropped, so that the salt can be told while their pages are on the disk yet. */
    private void saltAnew() {
        int n = below(model.file.writes.size() + 1);
        due("flush(" + n + ")", program.flush(n), model.flush(n));
        for (int k : model.file.keys()) {
            due("drop(" + k + ")", program.drop(k), model.drop(k));
        }
        // Of salts that differ by 64 the keys stay where they are.
        int salt = oneOf(2) ? 64 * below(15) : oneOf(2) ? 1 << below(6) : near(0, 999);
        due("terms(3, " + salt + ")", program.terms(3, salt), model.terms(3, salt));
        int behind = oneOf(2) ? 0 : below(model.file.writes.size() + 1);
        due("crash(" + behind + ")", program.crash(behind), model.crash(behind));
    }

    private void ask(int pick) {
        int k = someKey();
        int n = someCount();
        int b = near(0, 23);
        int w = near(0, 1);
        switch (pick) {
            case 86:
                due("behind(" + n + ", " + k + ")", program.behind(n, k), model.behind(n, k));
                break;
            case 87:
                due("lost(" + n + ")", program.lost(n), model.lost(n));
                break;
            case 88:
                due("torn(" + n + ")", program.torn(n), model.torn(n));
                break;
            case 89:
                due("splits()", program.splits(), model.splits());
                break;
            case 90:
                due("room()", program.room(), model.room());
                break;
            case 91:
                due("twin(" + b + ")", program.twin(b), model.twin(b));
                break;
            case 92:
                due("salts(" + w + ")", program.salts(w), model.salts(w));
                break;
            case 93:
                due("spent()", program.spent(), model.spent());
                break;
            case 94:
                due("canBe()", program.canBe(), model.canBe());
                due("read(" + w + ")", program.read(w), model.read(w));
                break;
            case 95:
                int few = near(1, 20);
                int of = near(0, 99);
                due("few(" + few + ", " + of + ")", program.few(few, of), model.few(few, of));
                break;
            case 96:
                int law = near(-1, 5);
                due("compare(" + law + ", " + b + ")", program.compare(law, b), model.compare(law, b));
                break;
            case 97:
                int d = near(0, 39);
                due("drawn(" + d + ")", program.drawn(d), model.drawn(d));
                break;
            case 98:
                int c = near(0, 17);
                due("count(" + c + ")", program.count(c), model.count(c));
                break;
            default:
                int what = near(0, 3);
                due("key(" + k + ", " + what + ")", program.key(k, what), model.key(k, what));
                break;
        }
    }

    private void feedText(String text) {
        due("end(0)", program.end(0), model.end(0));
        for (int i = 0; i < text.length(); i += 20) {
            int[] five = new int[5];
            for (int j = 0; j < 20; j++) {
                int sign = i + j < text.length() ? text.charAt(i + j) : 0;
                five[j / 4] = five[j / 4] << 8 | sign;
            }
            due("feed", program.feed(five[0], five[1], five[2], five[3], five[4]),
                model.feed(five[0], five[1], five[2], five[3], five[4]));
        }
        due("end", program.end(text.length()), model.end(text.length()));
    }

    private void feedRow() {
        StringBuilder row = new StringBuilder();
        int pairs = below(30);
        for (int i = 0; i < pairs; i++) {
            row.append((char) (someKey() & 255)).append((char) (oneOf(5) ? below(256) : below(100)));
        }
        if (oneOf(3)) {
            row.append((char) below(256));
        }
        feedText(row.toString());
    }

    /** What looks change nothing, so that they need not count among the calls. */
    private void lookAround() {
        int counted = calls;
        for (int b = -1; b <= 24; b++) {
            for (int what = -1; what <= 10; what++) {
                due("of(" + b + ", " + what + ")", program.of(b, what), model.of(b, what));
                due("page(" + b + ", " + what + ")", program.page(b, what), model.page(b, what));
            }
            due("twin(" + b + ")", program.twin(b), model.twin(b));
            due("compare(f, " + b + ")", program.compare(model.inForce, b), model.compare(model.inForce, b));
        }
        for (int i = -1; i <= 41; i++) {
            for (int what = -1; what <= 3; what++) {
                due("write(" + i + ", " + what + ")", program.write(i, what), model.write(i, what));
            }
            due("lost(" + i + ")", program.lost(i), model.lost(i));
            due("torn(" + i + ")", program.torn(i), model.torn(i));
        }
        for (int i = -1; i <= 65; i++) {
            due("slot(" + i + ")", program.slot(i), model.slot(i));
        }
        for (int what = -1; what <= 18; what++) {
            due("count(" + what + ")", program.count(what), model.count(what));
        }
        for (int k = -1; k <= 1000; k += 1 + below(30)) {
            for (int what = -1; what <= 4; what++) {
                due("key(" + k + ", " + what + ")", program.key(k, what), model.key(k, what));
            }
        }
        due("splits()", program.splits(), model.splits());
        due("room()", program.room(), model.room());
        due("spent()", program.spent(), model.spent());
        due("canBe()", program.canBe(), model.canBe());
        for (int what = -1; what <= 2; what++) {
            due("read(" + what + ")", program.read(what), model.read(what));
            due("salts(" + what + ")", program.salts(what), model.salts(what));
        }
        for (int k = -1; k <= 40; k++) {
            due("drawn(" + k + ")", program.drawn(k), model.drawn(k));
        }
        due("tears()", program.tears(), model.tears);
        due("fault()", program.fault(), model.fault);
        due("stopped()", program.stopped(), model.stopped);
        calls = counted;
    }
}
