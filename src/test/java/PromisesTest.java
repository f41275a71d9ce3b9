/** For each promise of the document: ordinary inputs, the edges that it names, and wrong inputs. */
public final class PromisesTest {
    private static final int LOW = Integer.MIN_VALUE;
    private static final int HIGH = Integer.MAX_VALUE;
    private static int wrong = 0;
    private static String promise = "";

    public static void main(String[] args) {
        newObject();
        ofAndPage();
        write();
        slot();
        key();
        terms();
        feedAndEnd();
        rowAndTears();
        law();
        lawWords();
        lawFaults();
        lawCutShort();
        orders();
        orderWords();
        orderFaults();
        faultAndStopped();
        force();
        put();
        putNoRoom();
        drop();
        flush();
        crash();
        crashBySalt();
        undo();
        behindLostTorn();
        splits();
        roomAndTwin();
        salts();
        spent();
        seenForgetCanBeRead();
        few();
        compare();
        yearsAndDrawn();
        imageAndBack();
        count();
        status();
        System.out.println(wrong == 0 ? "all promises are kept" : wrong + " answers are not as due");
        if (wrong != 0) {
            System.exit(1);
        }
    }

    private static void due(String call, long got, long want) {
        if (got != want) {
            wrong++;
            System.out.println(promise + ": " + call + " answered " + got + ", due is " + want);
        }
    }

    /** Lays a text on the tape that is empty. */
    private static void feed(TwinBuckets x, String text) {
        for (int i = 0; i < text.length(); i += 20) {
            int[] five = new int[5];
            for (int j = 0; j < 20; j++) {
                five[j / 4] = five[j / 4] << 8 | (i + j < text.length() ? text.charAt(i + j) : 0);
            }
            x.feed(five[0], five[1], five[2], five[3], five[4]);
        }
        due("end of '" + text + "'", x.end(text.length()), text.length());
    }

    private static int law(TwinBuckets x, String text) {
        feed(x, text);
        return x.law();
    }

    private static int orders(TwinBuckets x, String text) {
        feed(x, text);
        return x.orders();
    }

    private static TwinBuckets under(String law) {
        TwinBuckets x = new TwinBuckets();
        due("law '" + law + "'", law(x, law), 0);
        due("force(0)", x.force(0), TwinBuckets.NONE);
        return x;
    }

    private static void puts(TwinBuckets x, int... keys) {
        for (int k : keys) {
            x.put(k, k % 100);
        }
    }

    private static void newObject() {
        promise = "1 new object";
        due("NONE", TwinBuckets.NONE, -1);
        TwinBuckets x = new TwinBuckets();
        int[] counts = {0, 1, 0, 0, 0, 0, 0, 0, 0, 0, 0, 0, 0, -1, 0, 1, 0, 0};
        for (int i = 0; i < counts.length; i++) {
            due("count(" + i + ")", x.count(i), counts[i]);
        }
        due("of(0, 0)", x.of(0, 0), 1);
        due("status()", x.status(), 0);
        due("fault()", x.fault(), -1);
        due("stopped()", x.stopped(), -1);
        due("tears()", x.tears(), 0);
        for (int b = 1; b < 24; b++) {
            due("of(b, 0)", x.of(b, 0), 0);
            due("page(b, 0)", x.page(b, 0), 0);
        }
    }

    private static void ofAndPage() {
        promise = "2 of, 3 page";
        TwinBuckets x = new TwinBuckets();
        puts(x, 1, 2);
        int[] full = {1, 0, 0, 2, 1, 2, -1, 1, 2, -1};
        int[] empty = {1, 0, 0, 0, -1, -1, -1, -1, -1, -1};
        for (int what = 0; what < 10; what++) {
            due("of(0, " + what + ")", x.of(0, what), full[what]);
            due("page(0, " + what + ")", x.page(0, what), empty[what]);
            due("of(5, " + what + ")", x.of(5, what), what == 0 ? 0 : -1);
            due("page(5, " + what + ")", x.page(5, what), what == 0 ? 0 : -1);
        }
        x.flush(1);
        due("page(0, 3)", x.page(0, 3), 1);
        due("page(0, 4)", x.page(0, 4), 1);
        due("page(0, 5)", x.page(0, 5), -1);
        int[] wrongBuckets = {-1, 24, LOW, HIGH};
        for (int b : wrongBuckets) {
            due("of(" + b + ", 0)", x.of(b, 0), -1);
            due("page(" + b + ", 0)", x.page(b, 0), -1);
        }
        int[] wrongWhats = {-1, 10, LOW, HIGH};
        for (int w : wrongWhats) {
            due("of(0, " + w + ")", x.of(0, w), -1);
            due("page(0, " + w + ")", x.page(0, w), -1);
        }
    }

    private static void write() {
        promise = "4 write";
        TwinBuckets x = under("costs many*7");
        puts(x, 0, 1, 2, 4);
        x.drop(4);
        // 0, 0, 0, born 1, old 0, 0; then the drop: 0, joined 0, left 1
        int[] buckets = {0, 0, 0, 1, 0, 0, 0, 0, 1};
        int[] many = {1, 2, 3, 1, 2, 3, 2, 3, -1};
        for (int i = 0; i < 9; i++) {
            due("write(" + i + ", 0)", x.write(i, 0), buckets[i]);
            due("write(" + i + ", 1)", x.write(i, 1), Math.max(0, many[i]) * 7);
            due("write(" + i + ", 2)", x.write(i, 2), many[i]);
        }
        due("write(9, 0)", x.write(9, 0), -1);
        due("write(-1, 0)", x.write(-1, 0), -1);
        due("write(HIGH, 0)", x.write(HIGH, 0), -1);
        due("write(LOW, 0)", x.write(LOW, 0), -1);
        due("write(0, 3)", x.write(0, 3), -1);
        due("write(0, -1)", x.write(0, -1), -1);
        x.flush(3);
        due("write(0, 0)", x.write(0, 0), 1);
        promise = "4 write: 40 at most";
        TwinBuckets y = new TwinBuckets();
        for (int i = 0; i < 40; i++) {
            y.put(5, i);
        }
        due("count(3)", y.count(3), 40);
        due("page(0, 3)", y.page(0, 3), 0);
        y.put(5, 40);
        due("count(3)", y.count(3), 40);
        due("page(0, 7)", y.page(0, 7), 0);
        y.put(5, 41);
        due("page(0, 7)", y.page(0, 7), 1);
        due("behind(1, 5)", y.behind(1, 5), 2);
        due("behind(40, 5)", y.behind(40, 5), 41);
    }

    private static void slot() {
        promise = "5 slot";
        TwinBuckets x = new TwinBuckets();
        // low signs: 0: 000, 1: 101, 2: 010, 4: 100
        puts(x, 0, 1, 2, 4);
        due("slot(0)", x.slot(0), 0);
        due("slot(1)", x.slot(1), 1);
        due("slot(2)", x.slot(2), -1);
        // 8: 000 low signs: bucket 0 has 0, 2, 4 and splits by sign 1: 2 goes
        due("put(8)", x.put(8, 8), 1);
        int[] of = {0, 1, 2, 1};
        for (int i = 0; i < 4; i++) {
            due("slot(" + i + ")", x.slot(i), of[i]);
        }
        int[] none = {4, -1, LOW, HIGH, 64, 63};
        for (int i : none) {
            due("slot(" + i + ")", x.slot(i), -1);
        }
    }

    private static void key() {
        promise = "6 key";
        TwinBuckets x = under("bars if key = 7 or hash = 57 and many < 2");
        due("key(999, 0)", x.key(999, 0), 421 * 999 % 1024);
        due("key(0, 0)", x.key(0, 0), 0);
        due("key(7, 3)", x.key(7, 3), 1);
        due("key(5, 3)", x.key(5, 3), 1);
        puts(x, 0, 1);
        due("key(5, 3)", x.key(5, 3), 0);
        due("key(1, 1)", x.key(1, 1), 1);
        due("key(2, 1)", x.key(2, 1), -1);
        puts(x, 2, 4);
        due("key(3, 2)", x.key(3, 2), 1);
        due("key(6, 2)", x.key(6, 2), 0);
        due("key(3, 4)", x.key(3, 4), -1);
        due("key(3, -1)", x.key(3, -1), -1);
        due("key(1000, 2)", x.key(1000, 2), -1);
        due("key(-1, 0)", x.key(-1, 0), -1);
        due("key(LOW, 3)", x.key(LOW, 3), -1);
        due("key(HIGH, 1)", x.key(HIGH, 1), -1);
    }

    private static void terms() {
        promise = "7 terms";
        TwinBuckets x = new TwinBuckets();
        int[] first = {0, 1, 0, 0};
        int[] most = {999, 10, 9, 999};
        for (int what = 0; what < 4; what++) {
            due("terms(" + what + ", most)", x.terms(what, most[what]), first[what]);
            due("terms(" + what + ", most + 1)", x.terms(what, most[what] + 1), -1);
            due("terms(" + what + ", -1)", x.terms(what, -1), -1);
            due("terms(" + what + ", 0)", x.terms(what, 0), most[what]);
            due("count", x.count(14 + what), 0);
        }
        int[] none = {-1, 4, LOW, HIGH};
        for (int what : none) {
            due("terms(" + what + ", 0)", x.terms(what, 0), -1);
        }
        x.put(3, 3);
        due("terms(3, 5)", x.terms(3, 5), -3);
        due("terms(3, 0)", x.terms(3, 0), -3);
        due("terms(3, 1000)", x.terms(3, 1000), -1);
        due("count(6): a refused one leaves what can be undone", x.count(6), 1);
        due("terms(2, 3)", x.terms(2, 3), 0);
        due("count(6)", x.count(6), 0);
        x.drop(3);
        due("terms(3, 7)", x.terms(3, 7), 0);
        due("key(1, 0)", x.key(1, 0), 428);
        x.terms(0, 998);
        puts(x, 1, 2, 3);
        due("TIME stays at 999", x.count(14), 999);
    }

    private static void feedAndEnd() {
        promise = "8 feed, 9 end";
        TwinBuckets x = new TwinBuckets();
        due("end(0)", x.end(0), 0);
        due("end(1)", x.end(1), -1);
        for (int i = 1; i <= 20; i++) {
            due("feed", x.feed(-1, 0, LOW, HIGH, i), 20 * i);
        }
        due("feed beyond", x.feed(0, 0, 0, 0, 0), -1);
        due("count(7)", x.count(7), 400);
        due("end(401)", x.end(401), -1);
        due("end(-1)", x.end(-1), -1);
        due("end(LOW)", x.end(LOW), -1);
        due("end(381)", x.end(381), 381);
        due("feed beyond", x.feed(0, 0, 0, 0, 0), -1);
        due("end(400)", x.end(400), -1);
        due("end(380)", x.end(380), 380);
        due("feed", x.feed(0, 0, 0, 0, 0), 400);
        due("status()", x.status(), 0);
        due("count(8)", x.count(8), 0);
        x.end(0);
        // bytes 200, 1, 129, 2: the highest first, none below 0
        x.feed(200 << 24 | 1 << 16 | 129 << 8 | 2, 0, 0, 0, 0);
        x.end(4);
        due("row()", x.row(), 2);
        due("key(200, 1)", x.key(200, 1), 1);
        due("key(129, 1)", x.key(129, 1), 2);
    }

    private static void rowAndTears() {
        promise = "10 row, 11 tears";
        TwinBuckets x = under("bars if key = 9");
        due("row()", x.row(), -6);
        x.put(1, 1);
        due("a refused one leaves what can be undone", x.count(6), 1);
        // 1 anew, 2 with 99, 3 with 100 (a tear), 9 (a tear), 255, half a pair (a tear)
        feed(x, "" + (char) 1 + (char) 50 + (char) 2 + (char) 99 + (char) 3 + (char) 100
            + (char) 9 + (char) 1 + (char) 255 + (char) 0 + (char) 4);
        due("row()", x.row(), 3);
        due("tears()", x.tears(), 3);
        due("count(7)", x.count(7), 0);
        due("count(6)", x.count(6), 0);
        due("key(1, 1)", x.key(1, 1), 50);
        due("key(2, 1)", x.key(2, 1), 99);
        due("key(3, 1)", x.key(3, 1), -1);
        due("key(255, 1)", x.key(255, 1), 0);
        due("row()", x.row(), -6);
        due("tears() stays", x.tears(), 3);
        due("calls within do not count", x.count(8) + x.count(10), 0);
        feed(x, "" + (char) 7);
        due("row() of half a pair", x.row(), 0);
        due("tears()", x.tears(), 1);
        feed(x, "" + (char) 7 + (char) 7);
        due("row()", x.row(), 1);
        due("tears()", x.tears(), 0);
        TwinBuckets y = new TwinBuckets();
        feed(y, "" + (char) 0 + (char) 1 + (char) 64 + (char) 1 + (char) 128 + (char) 1 + (char) 192 + (char) 1);
        due("row(): the last finds no room", y.row(), 3);
        due("tears()", y.tears(), 1);
    }

    private static void law() {
        promise = "12 law";
        TwinBuckets x = new TwinBuckets();
        x.put(1, 1);
        due("law()", law(x, "costs 2"), 0);
        due("law()", law(x, "costs 3;bars if key=3"), 1);
        due("law() of nothing", law(x, ""), -6);
        due("fault()", x.fault(), 0);
        due("law() of blanks", law(x, "   "), -6);
        due("fault()", x.fault(), 3);
        due("count(5)", x.count(5), 2);
        for (int i = 2; i < 6; i++) {
            due("law()", law(x, "bars"), i);
        }
        due("fault()", x.fault(), -1);
        due("law() is one too many", law(x, "cost"), -5);
        due("the tape is empty", x.count(7), 0);
        due("fault() stays, it was not read", x.fault(), -1);
        due("status()", x.status(), -5);
        due("count(6): it leaves what can be undone", x.count(6), 1);
        due("undo()", x.undo(), 0);
    }

    private static int cost(String law, int bucket) {
        TwinBuckets x = new TwinBuckets();
        x.terms(2, 4);
        puts(x, 0, 1, 2, 4);
        due("law '" + law + "'", law(x, law), 0);
        return x.compare(0, bucket);
    }

    private static void lawWords() {
        promise = "12 law: what it tells";
        due("none holds", cost("bars", 0), 1);
        due("the last that holds", cost("costs 5;costs 6 if 1=1;costs 7 if 1=2", 0), 6);
        due("nearest below", cost("costs 0-5", 0), 0);
        due("nearest above", cost("costs 100", 0), 99);
        due("99", cost("costs 99", 0), 99);
        due("bucket", cost("costs bucket", 23), 23);
        due("depth", cost("costs depth+10", 1), 11);
        due("depth, not used", cost("costs depth+10", 5), 9);
        due("many", cost("costs many", 0), 3);
        due("many, not used", cost("costs many+1", 5), 1);
        due("key", cost("costs key+9", 0), 8);
        due("hash", cost("costs hash+9", 0), 8);
        due("time", cost("costs time", 0), 6);
        due("mood", cost("costs mood", 0), 4);
        due("from the left", cost("costs 20-5-3*2*2", 0), 3);
        due("brackets", cost("costs [20-5]/[1+1]", 0), 7);
        due("cut towards 0", cost("costs 10+[0-7]/2", 0), 7);
        due("what is left then", cost("costs 10+[0-7]%4", 0), 7);
        due("a broken sum does not hold", cost("costs 8;costs 5/0", 0), 8);
        due("a broken rest does not hold", cost("costs 8;costs 5%[1-1]", 0), 8);
        due("a broken test does not hold", cost("costs 8;costs 9 if 1/0=1", 0), 8);
        due("not does not mend it", cost("costs 8;costs 9 if not 1/0=1", 0), 8);
        due("1,000,000,000 is not beyond", cost("costs 9 if 1000*1000*1000>0", 0), 9);
        due("beyond", cost("costs 8;costs 9 if 1000*1000*1000+1>0", 0), 8);
        due("beyond below", cost("costs 8;costs 9 if 0-1000*1000*1000-1<0", 0), 8);
        due("-1,000,000,000 is not beyond", cost("costs 8;costs 9 if 0-1000*1000*1000<0", 0), 9);
        due("beyond on the way", cost("costs 8;costs 9 if 1000*1000*1000*2/1000<1", 0), 8);
        due("or asks no further", cost("costs 9 if 1=1 or 1/0=1", 0), 9);
        due("or asks further", cost("costs 8;costs 9 if 1=2 or 1/0=1", 0), 8);
        due("and asks no further", cost("costs 9 if not (1=2 and 1/0=1)", 0), 9);
        due("and asks further", cost("costs 8;costs 9 if 1=1 and 1/0=1", 0), 8);
        due("broken first", cost("costs 8;costs 9 if 1/0=1 or 1=1", 0), 8);
        due("and binds more", cost("costs 9 if 1=1 or 1=1 and 1=2", 0), 9);
        due("round brackets", cost("costs 8;costs 9 if (1=1 or 1=1) and 1=2", 0), 8);
        due("not binds most", cost("costs 9 if not 1=1 or 1=1", 0), 9);
        due("not not", cost("costs 9 if not not 1<2", 0), 9);
        due("not (not ())", cost("costs 8;costs 9 if not (not (1<2))", 0), 9);
        due("not (not (not ()))", cost("costs 8;costs 9 if not (not (not (1<2)))", 0), 8);
        due("not within and", cost("costs 8;costs 9 if (not 1=2) and not 1=2", 0), 9);
        due("<", cost("costs 8;costs 9 if 2<2", 0), 8);
        due(">", cost("costs 8;costs 9 if 2>2", 0), 8);
        due("=", cost("costs 8;costs 9 if 2=2", 0), 9);
        due("a long row of not", cost("costs 8;costs 9 if " + "not ".repeat(94) + "1=1", 0), 9);
        due("a longer row of not", cost("costs 8;costs 9 if " + "not ".repeat(93) + "1=1", 0), 8);
        promise = "12 law: time as it is then";
        TwinBuckets x = under("costs time + 10 * many");
        puts(x, 0, 1, 2, 4);
        int[] costs = {10, 21, 32, 13, 24, 35};
        for (int i = 0; i < 6; i++) {
            due("write(" + i + ", 1)", x.write(i, 1), costs[i]);
        }
    }

    private static void faultOfLaw(String text, int place) {
        TwinBuckets x = new TwinBuckets();
        due("law '" + text + "'", law(x, text), place < 0 ? 0 : -6);
        due("fault() of '" + text + "'", x.fault(), place);
    }

    private static String row(String sign, int n) {
        return sign.repeat(n);
    }

    private static void lawFaults() {
        promise = "12 law, 14 fault";
        faultOfLaw("costs 1", -1);
        faultOfLaw("  costs   1  ", -1);
        faultOfLaw("costs1;bars;bars if 1=1", -1);
        faultOfLaw("Costs 1", 0);
        faultOfLaw("xosts 1", 0);
        faultOfLaw("costsz 1", 0);
        faultOfLaw("costs", 5);
        faultOfLaw("bars of", 5);
        faultOfLaw("costs zey", 6);
        faultOfLaw("costs 1;", 8);
        faultOfLaw("costs 1; ", 9);
        faultOfLaw(";costs 1", 0);
        faultOfLaw("costs 1 bars", 8);
        faultOfLaw("costs 1 2", 8);
        faultOfLaw("costs 1000", -1);
        faultOfLaw("costs 0001000", -1);
        faultOfLaw("costs 1001", 6);
        faultOfLaw("costs 99999999999999999999", 6);
        faultOfLaw("costs -1", 6);
        faultOfLaw("costs 1+", 8);
        faultOfLaw("costs deep", 6);
        faultOfLaw("costs many 3", 11);
        faultOfLaw("costs bucketdepth", 6);
        faultOfLaw("costs 1 times 2", 8);
        faultOfLaw("bars if", 7);
        faultOfLaw("bars if (1)", 10);
        faultOfLaw("bars if (1=1", 12);
        faultOfLaw("bars if 1=1)", 11);
        faultOfLaw("bars if [1=1]", 10);
        faultOfLaw("bars if [1)=1", 10);
        faultOfLaw("bars if 1=1=1", 11);
        faultOfLaw("bars if 1=1 and or 1=1", 16);
        faultOfLaw("bars if not", 11);
        faultOfLaw("bars if 1 not = 1", 10);
        faultOfLaw("bars if 1 = not 1", 12);
        faultOfLaw("bars if 1=1 if 1=1", 12);
        faultOfLaw("costs 1" + (char) 9 + "+1", 7);
        faultOfLaw("costs 1" + (char) 0, 7);
        faultOfLaw("costs 1" + (char) 233, 7);
        faultOfLaw(row("bars;", 11) + "bars", -1);
        faultOfLaw(row("bars;", 12) + "bars", 60);
        faultOfLaw(row("bars;", 12), 60);
        faultOfLaw(row("bars;", 12) + "  bars", 62);
        faultOfLaw("costs 1" + row("+1", 49), -1);
        faultOfLaw("costs 1" + row("+1", 50), 6 + 100);
        faultOfLaw("costs 1" + row("+1", 24) + ";costs 1" + row("+1", 24), -1);
        faultOfLaw("costs 1" + row("+1", 24) + ";costs 1" + row("+1", 24) + ";costs key", 6 + 50 + 6 + 50 + 6);
        faultOfLaw("costs " + row("[", 8) + "1" + row("]", 8), -1);
        faultOfLaw("costs " + row("[", 9) + "1" + row("]", 9), 14);
        faultOfLaw("bars if " + row("(", 4) + row("[", 4) + "1" + row("]", 4) + "=1" + row(")", 4), -1);
        faultOfLaw("bars if " + row("(", 4) + row("[", 5) + "1" + row("]", 5) + "=1" + row(")", 4), 16);
        faultOfLaw("bars if " + row("(", 9) + "1=1" + row(")", 9), 16);
        faultOfLaw("bars if (1=1) and " + row("(", 8) + "1=1" + row(")", 8), -1);
    }

    /** A text ends where end() says, whatever was fed behind that. */
    private static void lawCutShort() {
        promise = "12 law: of the first bytes alone";
        TwinBuckets x = new TwinBuckets();
        feed(x, "costs 25");
        x.end(7);
        due("law()", x.law(), 0);
        due("compare(0, 0)", x.compare(0, 0), 2);
        feed(x, "costs 7;barsy");
        x.end(12);
        due("law()", x.law(), 1);
        due("compare(1, 0)", x.compare(1, 0), 7);
        feed(x, "costs      ");
        x.end(6);
        due("law()", x.law(), -6);
        due("fault()", x.fault(), 6);
        feed(x, "costs 1 if 1=1");
        x.end(8);
        due("law()", x.law(), 2);
    }

    private static void orders() {
        promise = "13 orders";
        TwinBuckets x = new TwinBuckets();
        due("orders() of nothing", orders(x, ""), -6);
        due("orders()", orders(x, "put 1 as 2;put 2 as 3 times 3;drop 2;flush 2;crash waits"), 7);
        due("count(6)", x.count(6), 7);
        due("count(7)", x.count(7), 0);
        due("count(3)", x.count(3), 0);
        due("key(1, 1)", x.key(1, 1), 2);
        due("key(2, 1)", x.key(2, 1), -1);
        due("orders() none run", orders(x, "drop 7 if 1=2;drop 7 if 1/0=1"), 0);
        due("count(6)", x.count(6), 7);
        String[] cant = {"put 1000 as 1", "put 1 as 100", "put 0-1 as 1", "drop 2", "drop 1/0", "flush 1",
            "flush 0-1", "crash 1", "crash 0-1", "put 1/0 as 1", "put 1 as 1%0"};
        for (String order : cant) {
            due("orders() '" + order + "'", orders(x, "put 5 as 5;drop 1;put 1 as 9 times 20;" + "flush waits;" + order),
                -3);
            due("stopped()", x.stopped(), 4);
            due("status()", x.status(), -3);
            due("key(5, 1)", x.key(5, 1), -1);
            due("key(1, 1)", x.key(1, 1), 2);
            due("count(6)", x.count(6), 7);
            due("count(3)", x.count(3), 0);
        }
        due("undo() of what was ahead", x.undo(), 3);
        due("undo()", x.undo(), 2);
        due("undo()", x.undo(), 1);
        due("key(2, 1)", x.key(2, 1), 3);
        due("times: the fifth has none left", orders(x, "drop 2;put 2 as 1;flush 1 times 9"), -3);
        due("stopped()", x.stopped(), 2);
        promise = "13 orders: barred, no room";
        TwinBuckets y = under("bars if key = 9");
        due("orders()", orders(y, "put 9 as 1"), -3);
        due("orders()", orders(y, "put 64*done as 1 times 4"), -3);
        due("count(2)", y.count(2), 0);
        due("orders()", orders(y, "put 64*done as 1 times 3"), 3);
        due("count(14)", y.count(14), 3);
    }

    /** What a sum is worth behind a few acts, as the value of key 500. */
    private static int worth(String sum) {
        TwinBuckets x = new TwinBuckets();
        x.put(7, 70);
        orders(x, "put 1 as 1;put 2 as 2;put 4 as 4;flush 1;drop 4 if 1=2;put 500 as " + sum);
        return x.key(500, 1);
    }

    private static void orderWords() {
        promise = "13 orders: words";
        // 7, 1 and 4 part by their lowest sign: 7 is odd, 1 is odd, 2 and 4 are even: one split at the put of 4
        due("time", worth("time"), 6);
        due("done", worth("done"), 4);
        due("latest", worth("latest"), 1);
        due("deep", worth("deep"), 1);
        due("waits", worth("waits"), 5);
        due("keys", worth("keys"), 4);
        due("value", worth("value 7"), 70);
        due("value of none", worth("value 999 + 5"), 4);
        due("many 0", worth("many 0"), 2);
        due("many", worth("many 1"), 2);
        due("many, not used", worth("many 23 + 5"), 4);
        TwinBuckets x = new TwinBuckets();
        due("latest: none", orders(x, "put 1 as latest + 1"), 1);
        due("key(1, 1)", x.key(1, 1), 0);
        due("done, asked each time", orders(x, "put done as done times 20 if done < 3"), 3);
        due("count(2)", x.count(2), 3);
        due("if, asked each time", orders(x, "put 3 as value 3 + 2 times 5 if value 3 < 3"), 2);
        due("key(3, 1)", x.key(3, 1), 3);
        due("latest is of this text", orders(x, "put 3 as latest + 9"), 1);
        due("key(3, 1)", x.key(3, 1), 8);
        for (int i = 0; i < 6; i++) {
            due("asked anew", orders(x, "put 3 as value 0" + row("+value 0", 40) + "+value 3-[value 3-4]"), 1);
            due("key(3, 1)", x.key(3, 1), 4);
        }
    }

    private static void faultOfOrders(String text, int place) {
        TwinBuckets x = new TwinBuckets();
        int told = orders(x, text);
        due("orders() '" + text + "' is -6", told == -6 ? 1 : 0, place < 0 ? 0 : 1);
        due("fault() of '" + text + "'", x.fault(), place);
    }

    private static void orderFaults() {
        promise = "13 orders, 14 fault";
        faultOfOrders("put 1 as 2 times 20 if keys=0", -1);
        faultOfOrders("put 1 as 2 if keys=0 times 20", 21);
        faultOfOrders("put 1", 5);
        faultOfOrders("put 1 as", 8);
        faultOfOrders("put as 1", 4);
        faultOfOrders("drop 1 as 2", 7);
        faultOfOrders("drop 1 times 0", 13);
        faultOfOrders("drop 1 times 21", 13);
        faultOfOrders("drop 1 times 1", -1);
        faultOfOrders("drop 1 times waits", 13);
        faultOfOrders("drop 1 times", 12);
        faultOfOrders("costs 1", 0);
        faultOfOrders("flush depth", 6);
        faultOfOrders("flush value", 11);
        faultOfOrders("flush value keys", 12);
        faultOfOrders("flush value 999", -1);
        faultOfOrders("flush value 1000", 12);
        faultOfOrders("flush many 23", -1);
        faultOfOrders("flush many 24", 11);
        faultOfOrders("flush many [1]", 11);
        faultOfOrders("flush 0;", 8);
        faultOfOrders("crash 0 if 1=1;flush", 20);
        faultOfOrders("    ", 4);
        faultOfOrders(row("flush 0;", 11) + "flush 0", -1);
        faultOfOrders(row("flush 0;", 12) + "flush 0", 96);
        promise = "13 orders: K, B, TIMES are no parts";
        faultOfOrders("drop many 1" + row("+many 1", 49) + " times 2", -1);
        faultOfOrders("drop many 1" + row("+many 1", 50), 5 + 350);
        faultOfOrders("flush 0 times 1 if 0" + row("+0", 46) + "=value 5+value 6", -1);
        faultOfOrders("flush 0 times 1 if 0" + row("+0", 46) + "=value 5+value 6+1", 19 + 93 + 1 + 16);
    }

    private static void faultAndStopped() {
        promise = "14 fault, 15 stopped";
        TwinBuckets x = new TwinBuckets();
        orders(x, "flush 0;drop 3");
        due("stopped()", x.stopped(), 1);
        due("fault()", x.fault(), -1);
        law(x, "costs 1 2");
        due("fault()", x.fault(), 8);
        due("stopped() is of the orders", x.stopped(), 1);
        orders(x, "flush 0");
        due("stopped()", x.stopped(), -1);
        due("fault()", x.fault(), -1);
        orders(x, "flush 0;drop 3");
        orders(x, "flush");
        due("stopped(): no clause could not be", x.stopped(), -1);
        due("fault()", x.fault(), 5);
        law(x, "bars");
        due("fault()", x.fault(), -1);
    }

    private static void force() {
        promise = "16 force";
        TwinBuckets x = new TwinBuckets();
        due("force(0)", x.force(0), -2);
        due("force(-2)", x.force(-2), -2);
        due("force(LOW)", x.force(LOW), -2);
        due("force(HIGH)", x.force(HIGH), -2);
        due("force(NONE)", x.force(-1), -1);
        due("status()", x.status(), 0);
        due("count(8)", x.count(8), 0);
        due("count(9)", x.count(9), 4);
        law(x, "costs 3");
        law(x, "costs 4");
        x.put(1, 1);
        due("force(1)", x.force(1), -1);
        due("force(0)", x.force(0), 1);
        due("force(2)", x.force(2), -2);
        due("count(13)", x.count(13), 0);
        x.put(1, 2);
        due("force(-1)", x.force(-1), 0);
        x.put(1, 3);
        due("write(0, 1)", x.write(0, 1), 1);
        due("write(1, 1)", x.write(1, 1), 3);
        due("write(2, 1)", x.write(2, 1), 1);
        due("count(6): it leaves what can be undone", x.count(6), 3);
    }

    private static void put() {
        promise = "17 put";
        TwinBuckets x = new TwinBuckets();
        int[][] wrongOnes = {{-1, 0}, {1000, 0}, {0, -1}, {0, 100}, {LOW, LOW}, {HIGH, HIGH}};
        for (int[] w : wrongOnes) {
            due("put(" + w[0] + ", " + w[1] + ")", x.put(w[0], w[1]), -1);
        }
        due("put(999, 99)", x.put(999, 99), 0);
        due("put(0, 0)", x.put(0, 0), 0);
        due("put again, the same", x.put(0, 0), 0);
        due("it is written", x.count(3), 3);
        x.drop(999);
        puts(x, 64, 128);
        // 32 parts from 0, 64, 128 by sign 5 alone
        due("put(32, 1)", x.put(32, 1), 6);
        due("DEEP", x.count(0), 6);
        due("USED", x.count(1), 7);
        due("writes", x.count(3), 3 + 1 + 2 + 12 + 1);
        due("slot(32)", x.slot(32), 6);
        due("slot(0)", x.slot(0), 0);
        int[] prefixes = {0, 1, 2, 4, 8, 16, 32};
        int[] depths = {6, 1, 2, 3, 4, 5, 6};
        for (int b = 0; b < 7; b++) {
            due("of(" + b + ", 1)", x.of(b, 1), depths[b]);
            due("of(" + b + ", 2)", x.of(b, 2), prefixes[b]);
            due("of(" + b + ", 3)", x.of(b, 3), b == 0 ? 3 : b == 6 ? 1 : 0);
        }
        promise = "17 put: the lowest bucket that is not used, keys in their order";
        TwinBuckets z = new TwinBuckets();
        // even: 2, 4, 8; odd: 1, 3; then 10 (even) splits the even ones by sign 1: 2, 10 have it
        puts(z, 1, 2, 4);
        due("put(8)", z.put(8, 8), 1);
        due("put(3)", z.put(3, 3), 0);
        due("of(1, 4)", z.of(1, 4), 1);
        due("of(1, 5)", z.of(1, 5), 3);
        due("put(10)", z.put(10, 10), 1);
        due("of(2, 4)", z.of(2, 4), 2);
        due("of(2, 5)", z.of(2, 5), 10);
        due("of(2, 8)", z.of(2, 8), 10);
        due("of(0, 4)", z.of(0, 4), 4);
        due("of(0, 5)", z.of(0, 5), 8);
        promise = "17 put: barred";
        TwinBuckets y = under("bars if time > 1");
        puts(y, 1, 2);
        due("put(3, 1)", y.put(3, 1), -3);
        due("put(3, 100)", y.put(3, 100), -1);
        due("put(1, 50): one that is there is not asked", y.put(1, 50), 0);
        due("key(1, 1)", y.key(1, 1), 50);
        due("count(2)", y.count(2), 2);
    }

    private static void putNoRoom() {
        promise = "17 put: no room";
        TwinBuckets x = new TwinBuckets();
        puts(x, 0, 64, 128);
        due("put(192, 1)", x.put(192, 1), -5);
        due("count(0)", x.count(0), 0);
        due("count(1)", x.count(1), 1);
        due("count(3)", x.count(3), 3);
        due("count(6)", x.count(6), 3);
        due("count(14)", x.count(14), 3);
        due("put(0, 9): it is there", x.put(0, 9), 0);
        TwinBuckets y = new TwinBuckets();
        int told = 0;
        int key = 0;
        for (; key < 200 && told >= 0; key++) {
            told = y.put(key, 1);
        }
        due("at last there is none", told, -5);
        due("all are used", y.count(1), 24);
        due("the last one is not there", y.key(key - 1, 1), -1);
        due("the one ahead is", y.key(key - 2, 1), 1);
        due("count(2)", y.count(2), key - 1);
        due("status()", y.status(), -5);
        due("count(11)", y.count(11), 1);
        promise = "17 put: barred ahead of no room";
        TwinBuckets z = under("bars if key = 192");
        puts(z, 0, 64, 128);
        due("put(192, 1)", z.put(192, 1), -3);
        due("put(256, 1)", z.put(256, 1), -5);
    }

    private static void drop() {
        promise = "18 drop";
        TwinBuckets x = new TwinBuckets();
        int[] wrongOnes = {-1, 1000, LOW, HIGH};
        for (int k : wrongOnes) {
            due("drop(" + k + ")", x.drop(k), -1);
        }
        due("drop(5)", x.drop(5), -3);
        puts(x, 0, 64, 128, 32);
        due("drop(32)", x.drop(32), 6);
        due("DEEP", x.count(0), 0);
        due("USED", x.count(1), 1);
        due("writes", x.count(3), 3 + 13 + 1 + 12);
        due("write(16, 0): its bucket", x.write(16, 0), 6);
        due("write(17, 0): the one of the lower prefix", x.write(17, 0), 0);
        due("write(18, 0): the other one", x.write(18, 0), 6);
        due("write(18, 2)", x.write(18, 2), -1);
        due("write(27, 0)", x.write(27, 0), 0);
        due("write(28, 0)", x.write(28, 0), 1);
        promise = "18 drop: the lower prefix is joined to";
        TwinBuckets y = new TwinBuckets();
        // even: 0, 2, 4; odd: 1
        puts(y, 1, 0, 2, 4);
        due("of(1, 4)", y.of(1, 4), 1);
        due("drop(0)", y.drop(0), 1);
        due("of(0, 4)", y.of(0, 4), 2);
        due("of(0, 5)", y.of(0, 5), 4);
        due("of(0, 6)", y.of(0, 6), 1);
        due("of(0, 9)", y.of(0, 9), 1);
        due("page(1, 0)", y.page(1, 0), 0);
        due("of(1, 0)", y.of(1, 0), 0);
        promise = "18 drop: keys and values move up";
        TwinBuckets w = new TwinBuckets();
        puts(w, 11, 12, 13);
        due("drop(11)", w.drop(11), 0);
        int[] left = {1, 0, 0, 2, 12, 13, -1, 12, 13, -1};
        for (int what = 0; what < 10; what++) {
            due("of(0, " + what + ")", w.of(0, what), left[what]);
        }
        due("drop(13)", w.drop(13), 0);
        due("of(0, 4)", w.of(0, 4), 12);
        due("of(0, 5)", w.of(0, 5), -1);
        promise = "18 drop: twins with more than 3 keys stay";
        TwinBuckets z = new TwinBuckets();
        puts(z, 0, 2, 4, 1, 3, 8);
        // even: 0, 4, 8 and 2 apart; odd: 1, 3
        due("count(1)", z.count(1), 3);
        due("drop(8)", z.drop(8), 1);
        due("DEEP", z.count(0), 1);
        due("drop(3): 3 and 1", z.drop(3), 0);
        due("drop(1): 3 and 0", z.drop(1), 1);
        due("count(1)", z.count(1), 1);
    }

    private static void flush() {
        promise = "19 flush";
        TwinBuckets x = new TwinBuckets();
        due("flush(0)", x.flush(0), 0);
        due("count(6)", x.count(6), 1);
        due("flush(1)", x.flush(1), -3);
        due("flush(-1)", x.flush(-1), -1);
        due("flush(LOW)", x.flush(LOW), -1);
        due("flush(HIGH)", x.flush(HIGH), -3);
        puts(x, 1, 2, 3);
        due("flush(2)", x.flush(2), 1);
        due("page(0, 3)", x.page(0, 3), 2);
        due("write(0, 2)", x.write(0, 2), 3);
        due("flush(1)", x.flush(1), 0);
        due("page(0, 3)", x.page(0, 3), 3);
        due("count(14): TIME stays", x.count(14), 3);
    }

    private static void crash() {
        promise = "20 crash";
        TwinBuckets x = new TwinBuckets();
        due("crash(0)", x.crash(0), 0);
        due("crash(1)", x.crash(1), -3);
        due("crash(-1)", x.crash(-1), -1);
        due("crash(HIGH)", x.crash(HIGH), -3);
        due("crash(LOW)", x.crash(LOW), -1);
        puts(x, 0, 64, 128, 32);
        // behind the three and seven of the splits: 1, 2, 4 and 8 are born, the old one is as it was at depth 3
        due("crash(10)", x.crash(10), 3);
        due("DEEP", x.count(0), 4);
        due("USED", x.count(1), 5);
        due("of(0, 1): half of its slots are another one's", x.of(0, 1), 4);
        due("page(0, 1)", x.page(0, 1), 4);
        due("of(4, 2)", x.of(4, 2), 8);
        due("slot(8)", x.slot(8), 4);
        due("slot(0)", x.slot(0), 0);
        due("slot(16)", x.slot(16), -1);
        due("count(3)", x.count(3), 0);
        due("count(14): TIME stays", x.count(14), 16);
        due("key(32, 1)", x.key(32, 1), -1);
        promise = "20 crash: keys of another page leave";
        TwinBuckets w = new TwinBuckets();
        puts(w, 1, 2);
        due("crash(2): behind all", w.crash(2), 2);
        due("page(0, 3)", w.page(0, 3), 2);
        puts(w, 3);
        due("crash(0): behind none", w.crash(0), 2);
        due("count(2)", w.count(2), 2);
        due("count(3)", w.count(3), 0);
        TwinBuckets y = new TwinBuckets();
        puts(y, 0, 1, 2, 4);
        due("crash(4)", y.crash(4), 3);
        due("of(0, 3)", y.of(0, 3), 2);
        due("of(0, 4)", y.of(0, 4), 0);
        due("of(0, 5)", y.of(0, 5), 2);
        due("page(0, 3)", y.page(0, 3), 2);
        due("of(1, 4)", y.of(1, 4), 1);
        promise = "20 crash: between the writes of a join";
        TwinBuckets z = new TwinBuckets();
        puts(z, 1, 0, 2, 4);
        z.flush(6);
        z.drop(0);
        // 0 without key 0; 0 joined (2, 4, 1), 1 not used
        due("crash(2)", z.crash(2), 3);
        due("of(0, 1)", z.of(0, 1), 1);
        due("page(0, 1)", z.page(0, 1), 1);
        due("of(0, 3)", z.of(0, 3), 2);
        due("of(1, 3)", z.of(1, 3), 1);
        due("DEEP", z.count(0), 1);
    }

    private static void crashBySalt() {
        promise = "20 crash: pages of another salt";
        TwinBuckets x = new TwinBuckets();
        puts(x, 0, 1, 2, 4);
        x.drop(4);
        x.drop(2);
        x.drop(1);
        x.drop(0);
        due("terms(3, 1)", x.terms(3, 1), 0);
        // behind six writes the pages hold 0, 2, 4 and 1, which all lead to the other one by now
        due("behind(6, 0)", x.behind(6, 0), -1);
        due("behind(3, 0)", x.behind(3, 0), 0);
        due("crash(6)", x.crash(6), 0);
        due("count(1)", x.count(1), 2);
        due("count(0)", x.count(0), 1);
        due("page(0, 3)", x.page(0, 3), 0);
        due("room()", x.room(), 6);
    }

    private static void undo() {
        promise = "21 undo";
        TwinBuckets x = new TwinBuckets();
        due("undo()", x.undo(), -3);
        puts(x, 0, 1, 2, 4);
        x.drop(4);
        x.flush(2);
        x.crash(3);
        due("count(6)", x.count(6), 7);
        x.put(1000, 0);
        x.drop(5);
        x.flush(-1);
        x.crash(41);
        due("refused ones are not kept", x.count(6), 7);
        due("undo() crash", x.undo(), 3);
        due("count(3)", x.count(3), 7);
        due("page(0, 3)", x.page(0, 3), 2);
        due("undo() flush", x.undo(), 2);
        due("count(3)", x.count(3), 9);
        due("page(0, 3)", x.page(0, 3), 0);
        due("undo() drop", x.undo(), 1);
        due("DEEP", x.count(0), 1);
        due("TIME", x.count(14), 6);
        due("slot(1)", x.slot(1), 1);
        due("undo() put", x.undo(), 0);
        due("DEEP", x.count(0), 0);
        due("TIME", x.count(14), 3);
        promise = "21 undo: 16 are kept";
        TwinBuckets y = new TwinBuckets();
        for (int i = 0; i < 20; i++) {
            y.put(3, i);
        }
        due("count(6)", y.count(6), 16);
        for (int i = 0; i < 16; i++) {
            due("undo()", y.undo(), 0);
        }
        due("undo()", y.undo(), -3);
        due("key(3, 1)", y.key(3, 1), 3);
        promise = "21 undo: by orders, too";
        TwinBuckets z = new TwinBuckets();
        for (int i = 0; i < 9; i++) {
            z.put(1, i);
            z.drop(1);
        }
        z.flush(1);
        due("undo()", z.undo(), 2);
        for (int i = 0; i < 7; i++) {
            due("undo()", z.undo(), 1);
            due("undo()", z.undo(), 0);
        }
        due("undo()", z.undo(), 1);
        due("undo()", z.undo(), -3);
        y.put(4, 4);
        due("orders()", orders(y, "put 3 as done times 20;drop 3"), 21);
        due("count(6)", y.count(6), 16);
        due("undo()", y.undo(), 1);
        for (int i = 18; i >= 4; i--) {
            due("undo()", y.undo(), 0);
            due("key(3, 1)", y.key(3, 1), i);
        }
        due("undo()", y.undo(), -3);
        y.put(3, 50);
        y.put(3, 51);
        due("orders()", orders(y, "put 3 as 60 + done times 3"), 3);
        due("count(6)", y.count(6), 5);
        due("orders() that can't be", orders(y, "put 3 as 70 times 20;drop 999"), -3);
        due("count(6)", y.count(6), 5);
        int[] left = {61, 60, 51, 50, 4};
        for (int value : left) {
            due("undo()", y.undo(), 0);
            due("key(3, 1)", y.key(3, 1), value);
        }
        due("orders() that can't be", orders(y, "put 3 as 70 times 20;drop 999"), -3);
        due("orders()", orders(y, "put 3 as 71"), 1);
        due("count(6): none of those that could not be", y.count(6), 1);
        due("undo()", y.undo(), 0);
        promise = "21 undo: not ahead of terms(), row(), back()";
        y.image(0);
        y.put(3, 1);
        y.back(1);
        due("count(6)", y.count(6), 1);
        y.back(0);
        due("count(6)", y.count(6), 0);
        y.put(3, 1);
        y.terms(1, 1);
        due("undo()", y.undo(), -3);
        y.put(3, 2);
        y.row();
        due("count(6)", y.count(6), 1);
        feed(y, "" + (char) 0 + (char) 200);
        y.row();
        due("undo()", y.undo(), -3);
        y.put(3, 3);
        y.years(1, 60);
        y.image(1);
        y.seen(0, 1);
        y.forget();
        law(y, "bars");
        y.force(0);
        due("others leave it", y.undo(), 0);
        due("key(3, 1)", y.key(3, 1), 2);
    }

    private static void behindLostTorn() {
        promise = "22 behind, 23 lost, 24 torn";
        TwinBuckets x = new TwinBuckets();
        puts(x, 0, 64, 128, 32);
        x.put(0, 50);
        // writes: 3, six times two, one, one
        due("behind(0, 0)", x.behind(0, 0), -1);
        due("behind(1, 0)", x.behind(1, 0), 0);
        due("behind(16, 0)", x.behind(16, 0), 0);
        due("behind(17, 0)", x.behind(17, 0), 50);
        due("behind(15, 32)", x.behind(15, 32), -1);
        due("behind(16, 32)", x.behind(16, 32), 32);
        due("behind(18, 32)", x.behind(18, 32), -1);
        due("behind(-1, 0)", x.behind(-1, 0), -1);
        due("behind(LOW, 0)", x.behind(LOW, 0), -1);
        due("behind(17, 1000)", x.behind(17, 1000), -1);
        due("behind(17, -1)", x.behind(17, -1), -1);
        due("lost(0)", x.lost(0), 4);
        due("lost(3)", x.lost(3), 2);
        due("lost(16)", x.lost(16), 1);
        due("lost(17)", x.lost(17), 0);
        due("lost(18)", x.lost(18), -1);
        due("lost(-1)", x.lost(-1), -1);
        due("torn(17)", x.torn(17), 0);
        due("torn(15)", x.torn(15), 0);
        due("torn(13)", x.torn(13), 32);
        due("torn(4)", x.torn(4), 62);
        due("torn(3)", x.torn(3), 63);
        due("torn(18)", x.torn(18), -1);
        due("torn(-1)", x.torn(-1), -1);
        due("on paper alone", x.count(3), 17);
        due("on paper alone", x.count(0), 6);
        x.flush(17);
        x.drop(32);
        due("torn(0): more than there are", x.torn(0), 63);
        due("torn(13)", x.torn(13), 0);
        due("behind(0, 32): one that is dropped", x.behind(0, 32), 32);
        due("lost(0)", x.lost(0), 0);
        promise = "24 torn: of another bucket";
        TwinBuckets y = new TwinBuckets();
        puts(y, 0, 2, 4, 8);
        // 0, 4, 8 and 2 by sign 1 (two splits); then odd ones are put, all of one file of depth 2
        due("DEEP", y.count(0), 2);
        y.flush(8);
        puts(y, 1, 3, 5, 7);
        // 1: 01, 3: 11, 5: 01, 7: 11: bucket 1 has three and splits once
        due("DEEP", y.count(0), 2);
        due("torn(3)", y.torn(3), 1);
        due("torn(4)", y.torn(4), 0);
    }

    private static void splits() {
        promise = "25 splits";
        TwinBuckets x = new TwinBuckets();
        puts(x, 0, 1);
        due("splits()", x.splits(), 0);
        x.put(2, 2);
        due("splits()", x.splits(), 997);
        x.put(4, 4);
        // 0, 2, 4 are full; all even keys but these
        due("splits()", x.splits(), 497);
        TwinBuckets y = under("bars if key % 2 = 1 and many = 3");
        puts(y, 0, 1, 2);
        due("splits(): not the barred", y.splits(), 498);
        TwinBuckets z = new TwinBuckets();
        puts(z, 0, 64, 128);
        // those with the six lowest signs 0 find no room: multiples of 64, 16 of which there are below 1000
        due("splits(): not those without room", z.splits(), 1000 - 16);
        TwinBuckets w = new TwinBuckets();
        puts(w, 1, 2, 999);
        due("splits(): key 0, too", w.splits(), 997);
    }

    private static void roomAndTwin() {
        promise = "26 room, 27 twin";
        TwinBuckets x = new TwinBuckets();
        due("room()", x.room(), 3);
        puts(x, 0, 64, 128, 32);
        due("room()", x.room(), 17);
        due("twin(0)", x.twin(0), 6);
        due("twin(6)", x.twin(6), 0);
        due("twin(1): the other half is split", x.twin(1), -1);
        due("twin(5)", x.twin(5), -1);
        due("twin(7): not used", x.twin(7), -1);
        int[] wrongOnes = {-1, 24, LOW, HIGH};
        for (int b : wrongOnes) {
            due("twin(" + b + ")", x.twin(b), -1);
        }
        TwinBuckets y = new TwinBuckets();
        due("twin(0) at depth 0", y.twin(0), -1);
    }

    private static void salts() {
        promise = "28 salts";
        TwinBuckets x = new TwinBuckets();
        due("salts(0)", x.salts(0), 0);
        due("salts(1)", x.salts(1), 1);
        int[] none = {2, -1, LOW, HIGH};
        for (int what : none) {
            due("salts(" + what + ")", x.salts(what), -1);
        }
        // A salt turns all hashes by the same: keys that were alike in their lowest signs still are, so that
        // all salts need as many buckets, and the lowest is told.
        // The lowest signs of 0, 8, 16, 24 are 000000, 101000, 010000, 111000: they part by sign 3.
        puts(x, 0, 8, 16);
        due("salts(1)", x.salts(1), 1);
        x.put(24, 1);
        due("salts(0)", x.salts(0), 0);
        due("salts(1)", x.salts(1), 5);
        TwinBuckets y = new TwinBuckets();
        // 3, 7, 11 are odd, 2, 6, 14 even
        puts(y, 3, 7, 11, 2, 6, 14);
        due("salts(0)", y.salts(0), 0);
        due("salts(1)", y.salts(1), 2);
        promise = "28 salts: in an empty file, not in this one";
        TwinBuckets z = new TwinBuckets();
        z.terms(3, 500);
        puts(z, 0, 64, 128, 32);
        z.crash(10);
        due("count(1)", z.count(1), 5);
        due("count(2)", z.count(2), 3);
        due("salts(0)", z.salts(0), 0);
        due("salts(1)", z.salts(1), 1);
        due("count(17)", z.count(17), 500);
        promise = "28 salts: all that can be";
        TwinBuckets w = new TwinBuckets();
        for (int k = 0; k < 60; k++) {
            w.put(k, 1);
        }
        due("salts(0)", w.salts(0), 0);
        due("salts(1)", w.salts(1), w.count(1));
        promise = "28 salts: barred aside";
        TwinBuckets u = new TwinBuckets();
        puts(u, 0, 1, 2, 4);
        law(u, "bars");
        u.force(0);
        due("salts(0)", u.salts(0), 0);
        due("salts(1)", u.salts(1), 2);
        due("the file is as it was", u.count(2), 4);
    }

    private static void spent() {
        promise = "29 spent";
        TwinBuckets x = new TwinBuckets();
        due("spent()", x.spent(), 0);
        x.put(1, 1);
        due("spent()", x.spent(), 1);
        law(x, "costs 50");
        x.force(0);
        due("each as it was when it came", x.spent(), 1);
        puts(x, 1, 2);
        due("spent()", x.spent(), 101);
        x.flush(2);
        due("spent()", x.spent(), 50);
        x.crash(0);
        due("spent()", x.spent(), 0);
        for (int i = 0; i < 45; i++) {
            x.put(1, i);
        }
        due("40 at most", x.spent(), 2000);
    }

    private static void seenForgetCanBeRead() {
        promise = "30 seen, 31 forget";
        TwinBuckets x = new TwinBuckets();
        x.put(1, 1);
        int[][] wrongOnes = {{-1, 0}, {64, 0}, {0, 2}, {0, -1}, {LOW, 1}, {HIGH, HIGH}};
        for (int[] w : wrongOnes) {
            due("seen(" + w[0] + ", " + w[1] + ")", x.seen(w[0], w[1]), -1);
        }
        due("forget()", x.forget(), 0);
        for (int i = 1; i <= 6; i++) {
            due("seen", x.seen(63, 0), i);
        }
        due("count(4)", x.count(4), 6);
        due("seen: no room", x.seen(63, 0), -5);
        due("seen: the number first", x.seen(64, 0), -1);
        due("it leaves what can be undone", x.count(6), 1);
        due("forget()", x.forget(), 6);
        due("forget()", x.forget(), 0);
        due("status() is of seen", x.status(), -1);
        promise = "32 canBe, 33 read";
        TwinBuckets y = new TwinBuckets();
        puts(y, 0, 64, 128, 32);
        due("canBe()", y.canBe(), 127);
        due("read(0)", y.read(0), 0);
        due("read(1)", y.read(1), 6);
        y.seen(0, 0);
        y.seen(3, 0);
        due("canBe(): neither 0 nor 1", y.canBe(), 127 - 1 - 2);
        due("read(0): slots 0, 1 part none", y.read(0), 2);
        due("read(1)", y.read(1), 4);
        y.seen(6, 0);
        y.seen(12, 0);
        due("canBe()", y.canBe(), 16 + 32 + 64);
        due("read(0): slot 8 is of 4", y.read(0), 8);
        due("read(1)", y.read(1), 2);
        y.seen(16, 1);
        due("canBe()", y.canBe(), 1 << 5);
        due("read(0): all slots are alike", y.read(0), 0);
        due("read(1)", y.read(1), 1);
        due("read(2)", y.read(2), -1);
        due("read(-1)", y.read(-1), -1);
        y.seen(17, 1);
        due("canBe()", y.canBe(), 0);
        due("read(0)", y.read(0), -1);
        due("read(1)", y.read(1), -1);
        promise = "32 canBe: a slot that is not there is of none";
        TwinBuckets z = new TwinBuckets();
        z.seen(1, 0);
        due("canBe()", z.canBe(), 1);
        z.seen(1, 1);
        due("canBe()", z.canBe(), 0);
    }

    private static void few() {
        promise = "34 few";
        TwinBuckets x = new TwinBuckets();
        due("few(1, 2)", x.few(1, 2), 810000000000L);
        due("few(2, 3)", x.few(2, 3), 972000000000L);
        due("few(20, 0)", x.few(20, 0), 1000000000000L);
        due("few(4, 3)", x.few(4, 3), 1000000000000L);
        // cut at each write
        long part = 1000000000000L;
        for (int i = 0; i < 99; i++) {
            part = part * 9 / 10;
        }
        due("few(1, 99)", x.few(1, 99), part);
        due("few(0, 5)", x.few(0, 5), -1);
        due("few(21, 5)", x.few(21, 5), -1);
        due("few(1, -1)", x.few(1, -1), -1);
        due("few(1, 100)", x.few(1, 100), -1);
        due("few(LOW, HIGH)", x.few(LOW, HIGH), -1);
        x.terms(1, 0);
        due("few(1, 99)", x.few(1, 99), 1000000000000L);
        x.terms(1, 10);
        due("few(20, 19)", x.few(20, 19), 1000000000000L);
        due("few(20, 20)", x.few(20, 20), 0);
        x.terms(1, 3);
        due("few(1, 1)", x.few(1, 1), 700000000000L);
        due("few(2, 2)", x.few(2, 2), 910000000000L);
    }

    private static void compare() {
        promise = "35 compare";
        TwinBuckets x = under("costs 5+many");
        law(x, "costs depth+20+bucket");
        puts(x, 0, 1, 2, 4);
        due("compare(0, 0)", x.compare(0, 0), 8);
        due("compare(1, 1)", x.compare(1, 1), 22);
        due("compare(1, 9): not used", x.compare(1, 9), 28);
        due("compare(NONE, 0)", x.compare(-1, 0), 1);
        due("compare(NONE, 9)", x.compare(-1, 9), 1);
        int[][] wrongOnes = {{2, 0}, {-2, 0}, {0, -1}, {0, 24}, {LOW, 0}, {HIGH, 0}, {0, LOW}, {0, HIGH}};
        for (int[] w : wrongOnes) {
            due("compare(" + w[0] + ", " + w[1] + ")", x.compare(w[0], w[1]), -1);
        }
        due("the law in force stays", x.count(13), 0);
        due("status()", x.status(), 0);
    }

    private static void yearsAndDrawn() {
        promise = "36 years, 37 drawn";
        TwinBuckets x = new TwinBuckets();
        for (int k = -1; k <= 40; k++) {
            due("drawn(" + k + ")", x.drawn(k), -1);
        }
        int[][] wrongOnes = {{-1, 1}, {1000001, 1}, {0, 0}, {0, 61}, {LOW, HIGH}};
        for (int[] w : wrongOnes) {
            due("years(" + w[0] + ", " + w[1] + ")", x.years(w[0], w[1]), -1);
        }
        // 0 becomes 12345 (25 of 40), then 628841 (1 of 8), then 621889 (1 of 8): key 25 is put with 1
        due("years(0, 1)", x.years(0, 1), 1);
        due("drawn(25)", x.drawn(25), 1);
        due("on paper alone", x.count(2) + x.count(3) + x.count(14), 0);
        due("years(1000001, 1)", x.years(1000001, 1), -1);
        due("drawn(25) is of the latest", x.drawn(25), 1);
        x.put(900, 9);
        x.flush(1);
        due("years(0, 1): keys of the file count", x.years(0, 1), 2);
        due("drawn(40)", x.drawn(40), -1);
        due("drawn(LOW)", x.drawn(LOW), -1);
        due("drawn(HIGH)", x.drawn(HIGH), -1);
        law(x, "bars if key = 25");
        x.force(0);
        due("years(0, 1): barred", x.years(0, 1), 1);
        due("drawn(25)", x.drawn(25), -1);
        due("years(1000000, 60)", x.years(1000000, 60) >= 1 ? 1 : 0, 1);
        promise = "36 years: the draws go on";
        TwinBuckets y = new TwinBuckets();
        // by seed 5: 20, 4, 2; 24, 0, 2; 13, 1, 2: three are put
        due("years(5, 2)", y.years(5, 2), 2);
        due("drawn(13)", y.drawn(13), -1);
        due("years(5, 3)", y.years(5, 3), 3);
        due("drawn(20)", y.drawn(20), 4);
        due("drawn(24)", y.drawn(24), 0);
        due("drawn(13)", y.drawn(13), 1);
        // by seed 2: 31, 2, 3; 21, 0, 4; 25, 0, 7: two are put, then power is lost behind none
        due("years(2, 2)", y.years(2, 2), 2);
        due("drawn(31)", y.drawn(31), 2);
        due("years(2, 3)", y.years(2, 3), 0);
        due("drawn(31)", y.drawn(31), -1);
        promise = "36 years: each act by the draws";
        for (int seed = 0; seed < 40; seed++) {
            yearByHand(seed * 25000);
        }
    }

    /** One year of a file with keys 0 .. 9, held against the same act by a call. */
    private static void yearByHand(int seed) {
        long s = (seed * 1103L + 12345) % 1000003;
        int key = (int) (s % 40);
        s = (s * 1103 + 12345) % 1000003;
        int second = (int) (s % 8);
        s = (s * 1103 + 12345) % 1000003;
        int what = (int) (s % 8);
        TwinBuckets x = new TwinBuckets();
        for (int k = 0; k < 40; k += 2) {
            x.put(k, 50 + k % 40);
        }
        x.flush(x.count(3) - 5);
        int told = x.years(seed, 1);
        int[] drawn = new int[40];
        for (int k = 0; k < 40; k++) {
            drawn[k] = x.drawn(k);
        }
        if (what < 5) {
            x.put(key, second);
        } else if (what < 7) {
            x.drop(key);
        } else {
            x.crash(Math.min(second, 5));
        }
        due("years(" + seed + ", 1)", told, x.count(2));
        for (int k = 0; k < 40; k++) {
            due("drawn(" + k + ") of seed " + seed, drawn[k], x.key(k, 1));
        }
    }

    private static void imageAndBack() {
        promise = "38 image, 39 back";
        TwinBuckets x = new TwinBuckets();
        int[] wrongOnes = {-1, 2, LOW, HIGH};
        for (int k : wrongOnes) {
            due("image(" + k + ")", x.image(k), -1);
            due("back(" + k + ")", x.back(k), -1);
        }
        due("back(0)", x.back(0), -2);
        due("back(1)", x.back(1), -2);
        x.terms(3, 9);
        x.terms(1, 4);
        x.terms(2, 5);
        law(x, "costs 7");
        x.force(0);
        puts(x, 0, 1, 2, 4);
        x.flush(2);
        x.seen(3, 1);
        due("image(1)", x.image(1), 0);
        due("count(6): it leaves what can be undone", x.count(6), 5);
        x.crash(0);
        x.drop(0);
        x.drop(1);
        x.terms(3, 0);
        x.terms(0, 500);
        x.terms(1, 1);
        x.terms(2, 0);
        law(x, "costs 9");
        x.force(1);
        x.forget();
        x.years(0, 1);
        law(x, "costs 9 9");
        orders(x, "flush 0;drop 77");
        law(x, "bars 9");
        feed(x, "" + (char) 5);
        x.row();
        feed(x, "abc");
        x.image(0);
        int refused = x.count(8) + x.count(9) + x.count(10) + x.count(12);
        due("back(1)", x.back(1), 0);
        int[] counts = {1, 2, 4, 4, 1, 1, 0, 3};
        for (int i = 0; i < counts.length; i++) {
            due("count(" + i + ")", x.count(i), counts[i]);
        }
        due("refusals are not kept", x.count(8) + x.count(9) + x.count(10) + x.count(12), refused);
        int[] terms = {0, 6, 4, 5, 9};
        for (int i = 0; i < terms.length; i++) {
            due("count(" + (13 + i) + ")", x.count(13 + i), terms[i]);
        }
        due("write(3, 1)", x.write(3, 1), 7);
        due("page(0, 3)", x.page(0, 3), 2);
        due("compare(0, 0)", x.compare(0, 0), 7);
        due("compare(1, 0)", x.compare(1, 0), -1);
        due("fault() is not kept", x.fault(), 5);
        due("stopped() is not kept", x.stopped(), 1);
        due("tears() is not kept", x.tears(), 1);
        due("drawn(25) is not kept", x.drawn(25), 1);
        due("undo()", x.undo(), -3);
        x.end(0);
        promise = "39 back: laws of images stay theirs";
        due("law()", law(x, "costs 33"), 1);
        due("compare(1, 0)", x.compare(1, 0), 33);
        due("back(0)", x.back(0), 0);
        due("compare(1, 0)", x.compare(1, 0), 9);
        due("count(13)", x.count(13), 1);
        due("count(14)", x.count(14), 500);
        due("back(1) again", x.back(1), 0);
        due("count(2)", x.count(2), 4);
        due("image(1) again", x.image(1), 0);
        x.put(7, 7);
        due("image(1) again", x.image(1), 0);
        x.drop(7);
        x.back(1);
        due("key(7, 1)", x.key(7, 1), 7);
        promise = "39 back: the first law, what was seen";
        TwinBuckets y = new TwinBuckets();
        puts(y, 0, 1, 2, 4);
        y.seen(0, 1);
        y.image(0);
        due("law()", law(y, "costs 5"), 0);
        y.forget();
        y.seen(1, 1);
        y.image(1);
        y.back(0);
        due("canBe()", y.canBe(), 1);
        due("law()", law(y, "costs 6"), 0);
        y.forget();
        y.seen(0, 0);
        y.back(1);
        due("canBe()", y.canBe(), 2);
        due("compare(0, 0)", y.compare(0, 0), 5);
        y.forget();
        y.seen(0, 0);
        y.back(0);
        due("canBe()", y.canBe(), 1);
        due("compare(0, 0)", y.compare(0, 0), -1);
    }

    private static void count() {
        promise = "40 count";
        TwinBuckets x = new TwinBuckets();
        x.put(1, 100);
        x.put(1, -1);
        x.back(0);
        x.drop(1);
        x.undo();
        x.flush(1);
        for (int i = 0; i < 7; i++) {
            x.seen(0, 0);
        }
        x.row();
        x.law();
        x.orders();
        x.force(9);
        int[] refused = {2, 2, 3, 1, 3};
        for (int i = 0; i < 5; i++) {
            due("count(" + (8 + i) + ")", x.count(8 + i), refused[i]);
        }
        x.of(-1, 0);
        x.end(5);
        x.few(0, 0);
        x.behind(5, 5);
        x.compare(5, 5);
        x.drawn(-5);
        for (int i = 0; i < 5; i++) {
            due("count(" + (8 + i) + "): others are not refused", x.count(8 + i), refused[i]);
        }
        int[] none = {-1, 18, LOW, HIGH};
        for (int w : none) {
            due("count(" + w + ")", x.count(w), -1);
        }
        due("count(4)", x.count(4), 6);
        puts(x, 1, 2, 3, 5, 7);
        due("count(1)", x.count(1), 4 - 1);
        due("count(2)", x.count(2), 5);
        x.feed(0, 0, 0, 0, 0);
        due("count(7)", x.count(7), 20);
    }

    private static void status() {
        promise = "41 status";
        TwinBuckets x = new TwinBuckets();
        due("status()", x.status(), 0);
        x.terms(9, 9);
        due("terms", x.status(), -1);
        x.image(0);
        due("image", x.status(), 0);
        x.row();
        due("row", x.status(), -6);
        x.of(-1, -1);
        x.end(77);
        x.canBe();
        x.forget();
        x.status();
        due("others leave it", x.status(), -6);
        x.back(0);
        due("back", x.status(), 0);
        x.law();
        due("law", x.status(), -6);
        x.terms(1, 1);
        due("terms", x.status(), 0);
        x.orders();
        due("orders", x.status(), -6);
        x.put(1, 1);
        due("put", x.status(), 0);
        x.force(1);
        due("force", x.status(), -2);
        x.drop(1);
        due("drop", x.status(), 0);
        x.drop(1);
        due("drop", x.status(), -3);
        x.flush(1);
        due("flush", x.status(), 0);
        x.flush(-1);
        due("flush", x.status(), -1);
        x.crash(0);
        due("crash", x.status(), 0);
        x.crash(1);
        due("crash", x.status(), -3);
        x.undo();
        due("undo", x.status(), 0);
        x.put(-1, 1);
        due("put", x.status(), -1);
        x.seen(0, 0);
        due("seen", x.status(), 0);
        x.seen(0, 9);
        due("seen", x.status(), -1);
        x.years(0, 1);
        due("years", x.status(), 0);
        x.years(0, 0);
        due("years", x.status(), -1);
        x.force(-1);
        due("force", x.status(), 0);
        x.image(5);
        due("image", x.status(), -1);
        due("law", law(x, "bars"), 0);
        due("law", x.status(), 0);
        x.back(1);
        due("back", x.status(), -2);
        due("orders", orders(x, "flush 0"), 1);
        due("orders", x.status(), 0);
        orders(x, "drop 1");
        due("orders", x.status(), -3);
        feed(x, "ab");
        x.row();
        due("row", x.status(), 0);
        x.undo();
        due("undo", x.status(), -3);
    }
}
