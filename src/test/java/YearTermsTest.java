import java.io.IOException;

/** The edges in the fourth of the document's terms: years by draws, rows, images. */
public final class YearTermsTest extends Edges {
    private static final Acts NOTHING = x -> { };

    public static void main(String[] args) throws IOException {
        run(YearTermsTest.class, args);
    }

    private static long next(long s) {
        return (s * 1103 + 12345) % 1000003;
    }

    /** Years by hand: the same acts as calls, each but a barred or otherwise refused one. */
    private static void act(Desk x, int seed, int n) {
        long s = seed;
        for (int i = 0; i < n; i++) {
            s = next(s);
            int key = (int) (s % 40);
            s = next(s);
            int second = (int) (s % 8);
            s = next(s);
            int what = (int) (s % 8);
            if (what <= 4) {
                x.put(key, second);
            } else if (what <= 6) {
                x.drop(key);
            } else {
                x.crash(Math.min(second, x.count(3)));
            }
        }
    }

    private static void yearsAreActs(Acts ahead, int seed, int n) {
        Desk x = new Desk();
        Desk y = new Desk();
        ahead.on(x);
        ahead.on(y);
        act(y, seed, n);
        due("years(" + seed + ", " + n + ")", x.years(seed, n), y.count(2));
        for (int k = 0; k < 40; k++) {
            due("years(" + seed + ", " + n + "): drawn(" + k + ")", x.drawn(k), y.key(k, 1));
        }
    }

    /** A seed the first year of which has these for its second and its last draw; -1 is any. */
    private static int seed(int second, int last) {
        for (int seed = 0; seed <= 1000000; seed++) {
            long a = next(next(seed));
            if ((second < 0 || a % 8 == second) && next(a) % 8 == last) {
                return seed;
            }
        }
        throw new IllegalStateException("no such seed");
    }

    @Says({"YEARS with a SEED, n 1 .. 60, on paper: s is the SEED (0 .. 1,000,000)"})
    static void theFirstAndTheLastSeedAndNumber() {
        for (int seed : new int[] {0, 1, 999999, 1000000}) {
            for (int n : new int[] {1, 2, 59, 60}) {
                yearsAreActs(NOTHING, seed, n);
            }
        }
        for (int seed : new int[] {-1, 1000001, LOW, HIGH}) {
            refused("years(" + seed + ", 1)", Edges::rich, x -> x.years(seed, 1), -1);
            refused("years(" + seed + ", 60)", Edges::rich, x -> x.years(seed, 60), -1);
        }
        for (int n : new int[] {0, -1, 61, LOW, HIGH}) {
            refused("years(0, " + n + ")", Edges::rich, x -> x.years(0, n), -1);
            refused("years(1000000, " + n + ")", Edges::rich, x -> x.years(1000000, n), -1);
        }
    }

    @Says("a DRAW of m: s becomes (s times 1103 and 12345) modulo 1,000,003, it is s modulo m.")
    static void drawsWrapAround() {
        // 0 becomes 12345, 628841, 621889: KEY 25 is put with VALUE 1
        Desk x = new Desk();
        due("years(0, 1)", x.years(0, 1), 1);
        due("drawn(25)", x.drawn(25), 1);
        // 895 becomes 999,530; 896 becomes 1,000,633 and so 630; 630 % 40 is 30
        due("the modulus", next(896), 630);
        yearsAreActs(NOTHING, 895, 1);
        yearsAreActs(NOTHING, 896, 1);
        for (int seed = 0; seed < 1000000; seed += 31250) {
            yearsAreActs(Edges::rich, seed, 60);
        }
    }

    @Says("at 0 .. 4 (the last DRAW) the KEY (the first) is PUT with the VALUE (the second), at 5, 6 it is DROPPED")
    static void theLastDrawFrom0To7() {
        Acts allThere = x -> {
            for (int k = 0; k < 40; k++) {
                x.put(k, 60);
            }
            x.flush(30);
        };
        for (int last = 0; last < 8; last++) {
            int seed = seed(-1, last);
            yearsAreActs(NOTHING, seed, 1);
            yearsAreActs(allThere, seed, 1);
            int key = (int) (next(seed) % 40);
            Desk x = new Desk();
            allThere.on(x);
            int told = x.years(seed, 1);
            due("years", told, last <= 4 ? 40 : last < 7 ? 39 : told);
            due("drawn(" + key + ") at " + last, x.drawn(key), last <= 4 ? next(next(seed)) % 8 : last < 7 ? -1 : 60);
        }
    }

    @Says("at 7 power is lost behind as many WRITES as the second DRAW tells (all that wait, if they are fewer)")
    static void powerIsLostBehindFewerThanWait() {
        for (int second = 0; second < 8; second++) {
            int seed = seed(second, 7);
            for (int waits = 0; waits < 10; waits++) {
                int puts = waits;
                Acts ahead = x -> {
                    for (int k = 0; k < puts; k++) {
                        x.put(3, 10 + k);
                    }
                };
                yearsAreActs(ahead, seed, 1);
                Desk x = new Desk();
                ahead.on(x);
                x.years(seed, 1);
                int done = Math.min(second, waits);
                due("drawn(3) behind " + second + " of " + waits, x.drawn(3), done == 0 ? -1 : 9 + done);
            }
        }
    }

    @Says("whatever comes of them")
    static void threeDrawsWhateverComes() {
        // all keys are barred: nothing is put, dropped or lost, but the draws go on
        Acts barred = x -> {
            x.put(0, 9);
            x.flush(1);
            x.under("bars if time < 3");
        };
        for (int seed = 0; seed < 1000000; seed += 111111) {
            yearsAreActs(barred, seed, 60);
        }
    }

    @Says("each if it can be")
    static void putsAndDropsThatCantBe() {
        int put = seed(-1, 0);
        int drop = seed(-1, 5);
        int ofPut = (int) (next(put) % 40);
        int ofDrop = (int) (next(drop) % 40);
        asked("years of a key that is barred", x -> {
            x.under("bars if key = " + ofPut);
            x.years(put, 1);
        }, x -> x.drawn(ofPut), -1);
        asked("years of a key that is there and barred", x -> {
            x.put(ofPut, 50);
            x.under("bars if key = " + ofPut);
            x.years(put, 1);
        }, x -> x.drawn(ofPut), next(next(put)) % 8);
        Desk x = new Desk();
        int slot = 37 * ofPut % 64;
        for (int i = 1; i <= 3; i++) {
            x.put(Desk.keyAt(slot, i), 1);
        }
        due("a key for which there is no room", x.put(ofPut, 1), -5);
        due("years", x.years(put, 1), 3);
        due("drawn", x.drawn(ofPut), -1);
        Desk y = new Desk();
        y.put(ofDrop == 0 ? 1 : 0, 5);
        due("years of a drop that can't be", y.years(drop, 1), 1);
        due("drawn", y.drawn(ofDrop == 0 ? 1 : 0), 5);
        due("a refused act is no refused call", y.count(10), 0);
        due("status()", y.status(), 0);
    }

    @Says("YEARS with a SEED, n 1 .. 60, on paper")
    static void yearsAreOnPaperAlone() {
        granted("years and the same ones as ahead again", x -> {
            rich(x);
            x.years(9, 60);
        }, NOTHING, x -> x.years(5, 60) * 0 + x.years(9, 60) * 0, 0);
    }

    @Says("A ROW: the TAPE's bytes by twos: a KEY, a VALUE: PUT; one that can't be (REFUSED by whatever), one within "
        + "which the TAPE ends is a TEAR: nothing.")
    static void tearsOfEachKind() {
        Desk x = new Desk();
        x.under("bars if key = 9");
        due("row(): the last value", x.row(1, 99), 1);
        due("tears()", x.tears(), 0);
        due("row(): a value that can't be", x.row(2, 100), 0);
        due("tears()", x.tears(), 1);
        due("row(): a value that can't be", x.row(2, 255), 0);
        due("row(): the last key that two bytes have", x.row(255, 0), 1);
        due("key(255, 1)", x.key(255, 1), 0);
        due("row(): a barred one", x.row(9, 1), 0);
        due("tears()", x.tears(), 1);
        due("row(): half of one", x.row(3), 0);
        due("tears()", x.tears(), 1);
        due("row(): one and half of one", x.row(3, 30, 4), 1);
        due("tears()", x.tears(), 1);
        due("key(4, 1)", x.key(4, 1), -1);
        due("count(2)", x.count(2), 3);
        due("row(): no room for the last", x.row(64, 1, 128, 1, 192, 1, 0, 1), 3);
        due("tears()", x.tears(), 1);
        due("row(): of the same key twice", x.row(64, 2, 64, 3), 2);
        due("key(64, 1)", x.key(64, 1), 3);
        due("row(): tears between", x.row(64, 4, 64, 100, 9, 9, 64, 5, 64), 2);
        due("tears()", x.tears(), 3);
        due("key(64, 1)", x.key(64, 1), 5);
        due("tears are no refused calls", x.count(8) + x.count(9) + x.count(10) + x.count(11) + x.count(12), 0);
        due("status()", x.status(), 0);
    }

    @Says("A ROW: the TAPE's bytes by twos")
    static void aRowOf400Bytes() {
        int[] bytes = new int[400];
        for (int i = 0; i < 200; i++) {
            bytes[2 * i] = i % 30;
            bytes[2 * i + 1] = i / 2;
        }
        Desk x = new Desk();
        due("row()", x.row(bytes), 200);
        due("tears()", x.tears(), 0);
        due("key(0, 1)", x.key(0, 1), 90);
        due("key(19, 1)", x.key(19, 1), 99);
        due("key(20, 1)", x.key(20, 1), 85);
        int[] odd = new int[399];
        System.arraycopy(bytes, 0, odd, 0, 399);
        due("row() of 399", x.row(odd), 199);
        due("tears()", x.tears(), 1);
        due("key(19, 1)", x.key(19, 1), 84);
        int[] tears = new int[400];
        java.util.Arrays.fill(tears, 200);
        due("row() of tears", x.row(tears), 0);
        due("tears()", x.tears(), 200);
    }

    @Says({"IMAGES 0, 1 keep all but the TAPE, FAULT, TEARS, where ORDERS stopped, what can be undone (nothing, behind "
        + "back()), the latest YEARS", "BACK to one all that it keeps is as it was then (IMAGES stay)."})
    static void backIsAsItWasThen() {
        // what no image keeps; the law, the orders are refused
        Acts aside = x -> {
            x.law("costs 8 8 8");
            x.orders("flush 0;flush 0;drop 998");
            x.law("costs 8 8");
            x.tape("bars");
        };
        for (int i = 0; i < 2; i++) {
            int k = i;
            Acts kept = x -> {
                rich(x);
                x.seen(2, 0);
                x.image(1 - k);
                x.put(64, 11);
                x.image(k);
                x.row(201, 200, 202, 200);
                x.years(77, 20);
            };
            alike("behind back(" + k + ")", x -> {
                kept.on(x);
                x.drop(64);
                x.flush(5);
                x.crash(4);
                x.drop(3);
                x.terms(0, 500);
                x.terms(1, 9);
                x.terms(2, 9);
                x.law("costs 5");
                x.force(2);
                x.forget();
                x.seen(5, 1);
                x.seen(6, 1);
                x.seen(7, 1);
                aside.on(x);
                x.back(k);
            }, x -> {
                kept.on(x);
                aside.on(x);
                // the same as it is: nothing can be undone behind it
                x.terms(2, 4);
            });
        }
    }

    @Says("BACK to one all that it keeps is as it was then")
    static void lawsAndSaltOfTwoImages() {
        Desk x = new Desk();
        x.terms(3, 5);
        x.under("costs 10");
        x.law("costs 11");
        x.image(0);
        due("law()", x.law("costs 12"), 2);
        x.terms(3, 6);
        x.force(2);
        x.image(1);
        x.back(0);
        due("count(5)", x.count(5), 2);
        due("compare(2, 0)", x.compare(2, 0), -1);
        due("force(2)", x.force(2), -2);
        due("key(0, 0)", x.key(0, 0), 5);
        due("law()", x.law("costs 13"), 2);
        due("compare(2, 0)", x.compare(2, 0), 13);
        x.put(1, 1);
        due("terms(3, 7)", x.terms(3, 7), -3);
        x.back(1);
        due("key(0, 0)", x.key(0, 0), 6);
        due("count(13)", x.count(13), 2);
        due("compare(2, 0)", x.compare(2, 0), 12);
        x.put(1, 1);
        due("write(0, 1)", x.write(0, 1), 12);
        x.back(0);
        due("key(0, 0)", x.key(0, 0), 5);
        due("count(13)", x.count(13), 0);
        due("compare(0, 0)", x.compare(0, 0), 10);
        due("count(5)", x.count(5), 2);
        Desk y = new Desk();
        y.image(0);
        y.law("costs 20");
        y.image(1);
        y.back(0);
        y.law("costs 21");
        y.back(1);
        due("the first LAW, too", y.compare(0, 0), 20);
    }

    @Says("(nothing, behind back())")
    static void nothingCanBeUndoneBehindBack() {
        refused("undo() behind back()", x -> {
            rich(x);
            x.image(1);
            x.puts(700, 701);
            x.back(1);
        }, Desk::undo, -3);
        Desk x = new Desk();
        x.puts(1, 2);
        x.image(0);
        due("image() leaves it", x.count(6), 2);
        x.back(0);
        due("count(6)", x.count(6), 0);
        x.put(3, 3);
        due("undo() of what is behind it", x.undo(), 0);
        due("undo()", x.undo(), -3);
        due("count(2)", x.count(2), 2);
    }

    @Says("(IMAGES stay)")
    static void imagesStayBehindBack() {
        Desk x = new Desk();
        x.put(1, 10);
        x.image(0);
        x.put(1, 20);
        x.image(1);
        x.put(1, 30);
        for (int i = 0; i < 3; i++) {
            due("back(0)", x.back(0), 0);
            due("key(1, 1)", x.key(1, 1), 10);
            x.put(1, 40);
            due("back(1)", x.back(1), 0);
            due("key(1, 1)", x.key(1, 1), 20);
            x.flush(1);
        }
        x.image(0);
        x.put(1, 50);
        due("back(0): the later one", x.back(0), 0);
        due("key(1, 1)", x.key(1, 1), 20);
        due("count(3)", x.count(3), 1);
        due("back(1)", x.back(1), 0);
        due("count(3)", x.count(3), 2);
    }

    @Says("IMAGES 0, 1 keep all")
    static void imagesThatThereAreNot() {
        for (int k : new int[] {-1, 2, LOW, HIGH}) {
            refused("image(" + k + ")", Edges::rich, x -> x.image(k), -1);
            refused("back(" + k + ")", Edges::rich, x -> x.back(k), -1);
        }
        refused("back(1), which was not kept", Edges::rich, x -> x.back(1), -2);
        refused("back(0) of a new object", NOTHING, x -> x.back(0), -2);
        granted("image(0) and back(0) of a new object", NOTHING, x -> x.image(0), x -> x.image(0) + x.back(0), 0);
    }
}
