import java.lang.management.ManagementFactory;
import java.util.function.Consumer;

/**
 * What a run makes is small: all calls of one run live in one room of some 600,000 objects and arrays, 7,300,000
 * fields and elements. The dearest runs of 512 calls are made, and the bytes they take counted. An object takes
 * 16 bytes or more and an element of the class's rows 4 or more: a run of less than 1,000,000 bytes has less than
 * 62,500 objects and 250,000 elements.
 */
public final class RoomTest {
    private static final long MOST_BYTES = 1_000_000;
    private static final String LONG_SUM = "1+1*1-1+1*1-1+1*1-1+1*1-1+1*1-1+1*1-1+1*1-1+1*1-1+1*1-1+1*1-1+1*1-1+1*1-1";

    private static int wrong = 0;

    public static void main(String[] args) {
        run("laws", RoomTest::laws);
        run("orders", RoomTest::orders);
        run("acts", RoomTest::acts);
        run("questions", RoomTest::questions);
        run("images and years", RoomTest::imagesAndYears);
        System.out.println(wrong == 0 ? "every run is small" : wrong + " things are wrong");
        if (wrong != 0) {
            System.exit(1);
        }
    }

    private static void due(String call, int got, int want) {
        if (got != want) {
            wrong++;
            System.out.println(call + " answered " + got + ", due is " + want);
        }
    }

    private static long bytes() {
        return ((com.sun.management.ThreadMXBean) ManagementFactory.getThreadMXBean()).getCurrentThreadAllocatedBytes();
    }

    /** The first time only readies the machine. */
    private static void run(String name, Consumer<Desk> calls) {
        calls.accept(new Desk());
        long before = bytes();
        calls.accept(new Desk());
        long taken = bytes() - before;
        if (taken <= 0 || taken > MOST_BYTES) {
            wrong++;
            System.out.println(name + ": a run takes " + taken + " bytes, " + MOST_BYTES + " are allowed");
        }
    }

    /** As many laws as the calls allow: behind back() there is room for more. */
    private static void laws(Desk x) {
        String longest = "costs " + LONG_SUM + ";costs 1 if not [" + LONG_SUM.substring(0, 19) + "] > 3";
        x.image(0);
        while (x.callsLeft() > 40) {
            for (int i = 0; i < 6 && x.callsLeft() > 20; i++) {
                due("law()", x.law(longest), i);
            }
            x.back(0);
        }
    }

    private static void orders(Desk x) {
        StringBuilder text = new StringBuilder("put keys*3 as done times 20");
        for (int i = 0; i < 5; i++) {
            text.append(";drop latest+3 times 20 if value 3 > 0;flush 0 times 20");
        }
        while (x.callsLeft() > 60) {
            due("orders()", x.orders(text + ";crash 0"), 122);
            due("orders()", x.orders("crash 0;put many 0 as 1;put 1000 as 1"), -3);
        }
    }

    private static void acts(Desk x) {
        for (int i = 0; x.callsLeft() > 4; i++) {
            x.put(i * 37 % 1000, i % 100);
            x.flush(i % 2);
            x.drop(i * 31 % 1000);
            x.crash(0);
        }
    }

    private static void questions(Desk x) {
        x.putThrees(0, 13);
        for (int i = 0; x.callsLeft() > 10; i++) {
            x.behind(i % 41, i);
            x.lost(i % 41);
            x.torn(i % 41);
            x.splits();
            x.salts(0);
            x.canBe();
            x.read(1);
            x.few(20, 99);
        }
    }

    private static void imagesAndYears(Desk x) {
        for (int i = 0; x.callsLeft() > 4; i++) {
            x.years(i, 60);
            x.image(i % 2);
            x.put(i, 1);
            x.back(i % 2);
        }
    }
}
