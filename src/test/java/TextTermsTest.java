import java.io.IOException;

/** The edges in the second of the document's terms: the tape, tokens, texts, laws, orders. */
public final class TextTermsTest extends Edges {
    private static final int NO_FAULT = -1;

    public static void main(String[] args) throws IOException {
        run(TextTermsTest.class, args);
    }

    /** The text as a law of a new object: its fault. */
    private static void law(String text, int fault) {
        Desk x = new Desk();
        due("law '" + text + "'", x.law(text), fault == NO_FAULT ? 0 : -6);
        due("fault() of '" + text + "'", x.fault(), fault);
        due("count(5) behind '" + text + "'", x.count(5), fault == NO_FAULT ? 1 : 0);
    }

    /** The text as orders of a new object, which may well be such as can't be: its fault. */
    private static void orders(String text, int fault) {
        Desk x = new Desk();
        int told = x.orders(text);
        due("orders '" + text + "' are -6", told == -6 ? 1 : 0, fault == NO_FAULT ? 0 : 1);
        due("fault() of '" + text + "'", x.fault(), fault);
    }

    /** A file of keys 0, 2, 4 in bucket 0 and 1 in bucket 1; MOOD is 4, TIME is 6. */
    private static Desk fourKeys() {
        Desk x = new Desk();
        x.terms(2, 4);
        x.puts(0, 1, 2, 4);
        return x;
    }

    /** What a write of a bucket of that file would cost by this law. */
    private static void cost(String law, int bucket, int want) {
        Desk x = fourKeys();
        due("law '" + law + "'", x.law(law), 0);
        due("a write of " + bucket + " by '" + law + "'", x.compare(0, bucket), want);
    }

    /** Whether a test is so (1), is not (0), or is broken (-1). */
    private static void test(String test, int want) {
        Desk x = fourKeys();
        x.law("costs 2;costs 3 if " + test);
        x.law("costs 2;costs 3 if not (" + test + ")");
        int so = x.compare(0, 0) - 2;
        int not = x.compare(1, 0) - 2;
        due("'" + test + "' is so", so, want == 1 ? 1 : 0);
        due("'" + test + "' is not so", not, want == 0 ? 1 : 0);
    }

    /** What orders tell that run on that file; the values of keys 500 and 501 behind them. */
    private static void run(String orders, int told, int value500) {
        Desk x = fourKeys();
        due("orders '" + orders + "'", x.orders(orders), told);
        due("key(500, 1) behind '" + orders + "'", x.key(500, 1), value500);
    }

    private static String times(String sign, int n) {
        return sign.repeat(n);
    }

    @Says("TEXTS are on a TAPE of at most 400 bytes.")
    static void aTextOf400Bytes() {
        law("costs 1" + times(" ", 393), NO_FAULT);
        law("costs" + times(" ", 395), 400);
        law(times(" ", 400), 400);
        law(times(" ", 393) + "costs 1", NO_FAULT);
        law(times(" ", 395) + "costs", 400);
        law("bars if 1=1" + times(" ", 388) + "2", 399);
        law("costs " + times("0", 393) + "1", NO_FAULT);
        law("costs " + times("9", 394), 6);
        law(times("x", 400), 0);
        orders(times(" ", 400), 400);
        orders("flush 0" + times(" ", 393), NO_FAULT);
        orders("flush " + times("0", 394), NO_FAULT);
        orders("flush 0 if 1=" + times("[", 387), 13 + 8);
    }

    @Says("TOKENS: longest rows of letters a .. z, of digits, single other bytes, any blanks (32) between.")
    static void lettersFromAToZ() {
        law("costs bucket", NO_FAULT);
        law("costs hash%10", NO_FAULT);
        law("bars", NO_FAULT);
        law("zars", 0);
        law("bars`", 4);
        law("bars{", 4);
        law("barsA", 4);
        law("Bars", 0);
        law("barsZ", 4);
        law("barsa", 0);
        law("barsz", 0);
        law("bar s", 0);
        law("b", 0);
        law("costsif", 0);
        law("barsif 1=1", 0);
        law("bars if mood=1and mood=2", NO_FAULT);
        law("bars if mood=1 andmood=2", 15);
        law("bars if(1=1)and(1=1)or not(1=1)", NO_FAULT);
        law("costs 7times", 7);
    }

    @Says("TOKENS: longest rows of letters a .. z, of digits, single other bytes, any blanks (32) between.")
    static void digitsFrom0To9() {
        cost("costs 90", 0, 90);
        cost("costs 09", 0, 9);
        cost("costs12", 0, 12);
        law("costs 1 2", 8);
        law("costs 1:", 7);
        law("costs :", 6);
        law("costs 1/", 8);
        law("costs /1", 6);
        cost("costs 10bars", 0, 1, 8);
        cost("costs 5if 1=1", 0, 5);
        cost("costs many+1if 1=1if", 0, 1, 18);
    }

    /** A law with a fault. */
    private static void cost(String law, int bucket, int want, int fault) {
        Desk x = fourKeys();
        due("law '" + law + "'", x.law(law), -6);
        due("fault() of '" + law + "'", x.fault(), fault);
        due("a write of " + bucket, x.compare(-1, bucket), want);
    }

    @Says("single other bytes")
    static void eachOtherByteIsATokenOfItsOwn() {
        law("costs [[1]]", NO_FAULT);
        law("costs 1++1", 8);
        law("bars if 1<>2", 10);
        law("bars if 1<=2", 10);
        law("bars if 1==2", 10);
        law("bars if ((1=1))", NO_FAULT);
        law("bars;;bars", 5);
        for (int b : new int[] {0, 1, 9, 10, 13, 31, 33, 34, 46, 64, 94, 95, 96, 123, 127, 128, 160, 233, 255}) {
            law("bars" + (char) b, 4);
            law((char) b + "bars", 0);
            law("costs " + (char) b, 6);
            law("bars if 1" + (char) b + "1", 9);
        }
    }

    @Says("any blanks (32) between")
    static void noBlankAndManyBlanks() {
        law("costs1;bars", NO_FAULT);
        law("   costs   1   ;   bars   ", NO_FAULT);
        law("costs[1]*2if(1=1)", NO_FAULT);
        orders("put1as2times3if1=1", NO_FAULT);
        orders("  put  1  as  2  times  3  if  1  =  1  ", NO_FAULT);
        orders("put1as2times3if1 1", 17);
    }

    @Says("CLAUSE {\";\" CLAUSE}, 12 at most (FAULT at the 13th's first TOKEN).")
    static void the12thClauseAndThe13th() {
        law("bars", NO_FAULT);
        law(times("bars;", 11) + "bars", NO_FAULT);
        law(times("bars;", 12) + "bars", 60);
        law(times("bars;", 12) + "   bars", 63);
        law(times("bars;", 12) + "costs", 60);
        law(times("bars;", 12) + "?", 60);
        law(times("bars;", 12), 60);
        law(times("bars;", 12) + "  ", 62);
        law(times("bars;", 11) + "bars bars", 60);
        law(times("bars ;", 13), 72);
        orders(times("flush 0;", 11) + "flush 0", NO_FAULT);
        orders(times("flush 0;", 12) + "flush 0", 96);
        orders(times("flush 0;", 12), 96);
        orders(times("flush 0;", 12) + " put", 97);
        Desk x = new Desk();
        due("orders() of twelve", x.orders(times("flush 0;", 11) + "flush 0"), 12);
        due("orders(), the twelfth can't be", x.orders(times("flush 0;", 11) + "flush 1"), -3);
        due("stopped()", x.stopped(), 11);
        due("law() of twelve, the last holds", x.law(times("costs 1;", 11) + "costs 12"), 0);
        due("compare(0, 0)", x.compare(0, 0), 12);
        due("law() of twelve, the first holds", x.law("costs 13" + times(";costs 1/0", 11)), 1);
        due("compare(1, 0)", x.compare(1, 0), 13);
    }

    @Says("CLAUSE {\";\" CLAUSE}")
    static void noClauseAtAllOrBehindTheLast() {
        law("", 0);
        law(";", 0);
        law("bars;", 5);
        law("bars; ", 6);
        law(" ;bars", 1);
        orders("", 0);
        orders("flush 0;", 8);
    }

    @Says({"TEST: BOTH {\"or\" BOTH}. BOTH: PLAIN {\"and\" PLAIN}.", "PLAIN: \"not\" PLAIN | \"(\" TEST \")\" | SUM "
        + "(\"<\" | \">\" | \"=\") SUM."})
    static void testsThatCantGoOn() {
        law("bars if", 7);
        law("bars if not", 11);
        law("bars if ()", 9);
        law("bars if (1=1", 12);
        law("bars if (1=1]", 12);
        law("bars if 1=1)", 11);
        law("bars if (1)=1", 10);
        law("bars if (1=1)=1", 13);
        law("bars if 1", 9);
        law("bars if 1=", 10);
        law("bars if =1", 8);
        law("bars if 1=1=1", 11);
        law("bars if 1=1 or", 14);
        law("bars if 1=1 and", 15);
        law("bars if or 1=1", 8);
        law("bars if 1=1 or or 1=1", 15);
        law("bars if 1=1 and not", 19);
        law("bars if 1=not 1", 10);
        law("bars if 1=1 not 1=1", 12);
        law("bars if 1=1 1=1", 12);
        law("bars if if 1=1", 8);
        law("bars if 1=1 if 1=1", 12);
        law("bars 1", 5);
        law("bars and 1=1", 5);
        law("costs if 1=1", 6);
        law("costs (1)", 6);
        law("costs 1=1", 7);
        law("costs 1 or 1", 8);
        law("bars if (1=1) or (1=1", 21);
        law("bars if not not (not (1=1))", NO_FAULT);
    }

    @Says({"SUM: TERM {(\"+\" | \"-\") TERM}. TERM: PART {(\"*\" | \"/\" | \"%\") PART}.", "PART: NUMBER (to 1,000) | "
        + "\"[\" SUM \"]\" | a word, as told."})
    static void sumsThatCantGoOn() {
        law("costs", 5);
        law("costs +1", 6);
        law("costs -1", 6);
        law("costs 1+", 8);
        law("costs 1-", 8);
        law("costs 1*", 8);
        law("costs 1%", 8);
        law("costs 1+-1", 8);
        law("costs 1*-1", 8);
        law("costs []", 7);
        law("costs [1", 8);
        law("costs [1)", 8);
        law("costs 1]", 7);
        law("costs [1][1]", 9);
        law("costs bucket depth", 13);
        law("costs 1 bucket", 8);
        law("costs [1;bars]", 8);
        law("costs [costs 1]", 7);
        law("costs [1=1]", 8);
    }

    @Says("NUMBER (to 1,000)")
    static void theNumber1000AndThe1001() {
        test("1000=999+1", 1);
        test("0=1-1", 1);
        law("costs 1000", NO_FAULT);
        law("costs 1001", 6);
        law("costs 01000", NO_FAULT);
        law("costs 01001", 6);
        law("costs 10000", 6);
        law("costs 1+2147483648", 8);
        law("costs 4294967296", 6);
        law("costs 4294967297+1", 6);
        law("bars if 1=1001", 10);
        orders("put 1 as 1001", 9);
        orders("put 1001 as 1", 4);
        orders("put 1000 as 1", NO_FAULT);
        orders("flush 18446744073709551616", 6);
    }

    @Says("50 PARTS that are NUMBERS and words (FAULT at the 51st)")
    static void the50thPartAndThe51st() {
        law("costs 1" + times("+1", 49), NO_FAULT);
        law("costs 1" + times("+1", 50), 106);
        law("costs key" + times("*key", 49), NO_FAULT);
        law("costs key" + times("*key", 50), 206);
        law("bars if 0" + times("+0", 24) + "=0" + times("+0", 24), NO_FAULT);
        law("bars if 0" + times("+0", 24) + "=0" + times("+0", 25), 108);
        law("bars if 0" + times("+0", 24) + "=0" + times("+0", 25) + "+0", 108);
        law("costs 1" + times("+1", 48) + ";costs 1", NO_FAULT);
        law("costs 1" + times("+1", 49) + ";bars", NO_FAULT);
        law("costs 1" + times("+1", 49) + ";costs 1", 112);
        law("costs 1" + times("+1", 49) + ";costs if", 112);
        law("costs 1" + times("+1", 49) + "+[[1]]", 108);
        law("costs 1" + times("+1", 49) + "+1001", 106);
        law("costs 1" + times("+1", 49) + " if 1=1", 109);
        cost("costs 1" + times("+1", 49), 0, 50);
    }

    @Says("8 brackets of both kinds within one another (FAULT at the 9th) at most.")
    static void the8thBracketWithinOneAnotherAndThe9th() {
        law("costs " + times("[", 8) + "1" + times("]", 8), NO_FAULT);
        law("costs " + times("[", 9) + "1" + times("]", 9), 14);
        law("bars if " + times("(", 8) + "1=1" + times(")", 8), NO_FAULT);
        law("bars if " + times("(", 9) + "1=1" + times(")", 9), 16);
        law("bars if " + times("(", 7) + "[1]=1" + times(")", 7), NO_FAULT);
        law("bars if " + times("(", 8) + "[1]=1" + times(")", 8), 16);
        law("bars if " + times("(", 8) + "1=[1]" + times(")", 8), 18);
        law("bars if " + times("(", 7) + "1=[1+[1]]" + times(")", 7), 20);
        // beside one another they may be more
        law("costs " + times("[", 8) + "1" + times("]", 8) + "+" + times("[", 8) + "1" + times("]", 8), NO_FAULT);
        law("bars if " + times("(1=1) and ", 12) + "(1=1)", NO_FAULT);
        law("costs " + times("[1]+", 20) + "1", NO_FAULT);
        law("costs " + times("[", 8) + "1" + times("]", 8) + ";costs " + times("[", 9), 38);
        orders("flush " + times("[", 8) + "0" + times("]", 8), NO_FAULT);
        orders("flush " + times("[", 9) + "0" + times("]", 9), 14);
        orders("put " + times("[", 8) + "0" + times("]", 8) + " as " + times("[", 9), 33);
        cost("costs " + times("[", 8) + "7" + times("]", 8), 0, 7);
    }

    @Says("FAULT: the first TOKEN that can't go on there (the end's: the TEXT's length).")
    static void theFirstOfTwoFaultsAndTheEnds() {
        law("costs ? ?", 6);
        law("costs 1 ? ;costs ?", 8);
        law("costs 1001 1001", 6);
        law("   costs   depth   key   ", 19);
        law("costs", 5);
        law("costs     ", 10);
        law("costs 1 if 1=1 or not", 21);
        orders("put 1 as", 8);
        orders("put 1 as    ", 12);
        orders("put 1 if", 6);
        Desk x = new Desk();
        x.tape("costs 1 2 3");
        x.end(9);
        due("law(): what was cut off is not there", x.law(), -6);
        due("fault()", x.fault(), 8);
        x.tape("costs 1+2");
        x.end(8);
        due("law()", x.law(), -6);
        due("the end's fault is the cut text's length", x.fault(), 8);
    }

    @Says("Beyond 1,000,000,000 either way, or divided by 0 (/ cut towards 0, % what is left then), a SUM, a TEST is "
        + "BROKEN")
    static void beyondABillionEitherWay() {
        test("1000*1000*1000>0", 1);
        test("1000*1000*1000+0>0", 1);
        test("1000*1000*1000+1>0", -1);
        test("1000*1000*1000-1>0", 1);
        test("0-1000*1000*1000<0", 1);
        test("0-1000*1000*1000-1<0", -1);
        test("0-1-1000*1000*1000<0", -1);
        test("1000*1000*1000*2>0", -1);
        test("1000*1000*1000*1000*1000*1000*1000>0", -1);
        // by 32 bits it would be 705,032,704
        test("1000*1000*1000*5>0", -1);
        test("1=1000*1000*1000+1", -1);
        test("[0-1000]*1000*1000<0", 1);
        test("[0-1000]*1000*1000*2<0", -1);
        test("[0-1000]*1000*1000-1<0", -1);
        test("[0-1000*1000*1000]*[0-1]>0", 1);
        test("999*1000*1000+1000*1000>0", 1);
        test("999*1000*1000+1000*1000+1>0", -1);
    }

    @Says("divided by 0 (/ cut towards 0, % what is left then)")
    static void dividedByZeroAndCut() {
        test("1/0=0", -1);
        test("1%0=0", -1);
        test("0/0=0", -1);
        test("0%0=0", -1);
        test("1/[5-5]=0", -1);
        test("5%[mood-4]=0", -1);
        test("0/1=0", 1);
        test("7/2=3", 1);
        test("[0-7]/2=0-3", 1);
        test("7/[0-2]=0-3", 1);
        test("[0-7]/[0-2]=3", 1);
        test("1/2=0", 1);
        test("[0-1]/2=0", 1);
        test("7%2=1", 1);
        test("[0-7]%2=0-1", 1);
        test("7%[0-2]=1", 1);
        test("[0-7]%[0-2]=0-1", 1);
        test("6%3=0", 1);
        test("[0-6]%3=0", 1);
        test("5%1000=5", 1);
        test("1000*1000*1000/[0-1]=0-1000*1000*1000", 1);
    }

    @Says("(\"or\", \"and\" ask what stands behind only if it can still matter)")
    static void orAndAndAskWhatCanMatter() {
        test("1=1 or 1/0=1", 1);
        test("1=2 or 1/0=1", -1);
        test("1=2 and 1/0=1", 0);
        test("1=1 and 1/0=1", -1);
        test("1/0=1 or 1=1", -1);
        test("1/0=1 and 1=2", -1);
        test("1=1 or 1/0=1 and 1/0=1", 1);
        test("1=2 and 1/0=1 or 1=1", 1);
        test("1=2 and 1/0=1 or 1=2", 0);
        test("1=2 or 1=1 or 1/0=1", 1);
        test("1=1 and 1=2 and 1/0=1", 0);
        test("1=2 or 1=2 or 1/0=1", -1);
        test("(1=1 or 1/0=1) and 1=1", 1);
        test("(1=1 or 1/0=1) and 1/0=1", -1);
        test("not (1=2 and 1/0=1)", 1);
        test("not 1=1 and 1/0=1", 0);
        test("not 1=2 or 1/0=1", 1);
        test("not 1/0=1", -1);
        test("1=1 and not 1/0=1", -1);
        test("1=2 and not 1/0=1", 0);
    }

    @Says("SUM (\"<\" | \">\" | \"=\") SUM")
    static void lessMoreAndTheSame() {
        test("2<3", 1);
        test("3<3", 0);
        test("4<3", 0);
        test("4>3", 1);
        test("3>3", 0);
        test("2>3", 0);
        test("3=3", 1);
        test("2=3", 0);
        test("0-1<0", 1);
        test("1+2*3=7", 1);
        test("9-3-2=4", 1);
        test("9-[3-2]=8", 1);
        test("8/2/2=2", 1);
        test("8/2*2=8", 1);
        test("2*7%4=2", 1);
    }

    @Says("LAWS, 6 at most")
    static void the6thLawAndThe7th() {
        Acts six = x -> {
            rich(x);
            for (int i = 2; i < 6; i++) {
                due("law", x.law("costs " + i), i);
            }
        };
        refused("law(), the seventh", x -> {
            six.on(x);
            x.tape("costs 7");
        }, x -> x.end(0), Desk::law, -5);
        refused("law(), the seventh, with a fault: it is not read", x -> {
            six.on(x);
            x.law("no");
            x.tape("costs 7 7");
        }, x -> x.end(0), Desk::law, -5);
        refused("law(), the seventh, of nothing", x -> {
            six.on(x);
            x.end(0);
        }, Desk::law, -5);
        Desk x = new Desk();
        six.on(x);
        due("force(5)", x.force(5), 0);
        due("force(6)", x.force(6), -2);
        due("compare(5, 0)", x.compare(5, 0), 5);
        due("compare(6, 0)", x.compare(6, 0), -1);
    }

    @Says("one is in FORCE (NONE at first: no CLAUSE)")
    static void noLawInForceAtFirst() {
        Desk x = new Desk();
        due("count(13)", x.count(13), -1);
        x.law("costs 50;bars");
        due("a law is not in force by itself", x.count(13), -1);
        due("put(1, 1)", x.put(1, 1), 0);
        due("write(0, 1)", x.write(0, 1), 1);
        due("key(2, 3)", x.key(2, 3), 0);
        due("force(0)", x.force(0), -1);
        due("put(2, 1)", x.put(2, 1), -3);
        due("put(1, 2)", x.put(1, 2), 0);
        due("write(1, 1)", x.write(1, 1), 50);
        due("force(-1)", x.force(-1), 0);
        due("put(2, 1)", x.put(2, 1), 0);
        due("write(2, 1)", x.write(2, 1), 1);
    }

    @Says("(many: how many KEYS it has, depth: -1, many: 0 if it is not USED; key, hash -1)")
    static void wordsOfABucketThatIsNotUsed() {
        cost("costs depth+10", 0, 11);
        cost("costs depth+10", 5, 9);
        cost("costs many+10", 0, 13);
        cost("costs many+10", 5, 10);
        cost("costs key+10", 0, 9);
        cost("costs hash+10", 0, 9);
        cost("costs key+10", 5, 9);
        cost("costs hash+10", 5, 9);
        cost("costs bucket", 23, 23);
        cost("costs bucket", 0, 0);
        Desk x = new Desk();
        x.under("costs 10*many+depth+5");
        x.puts(0, 1, 2, 4);
        x.drop(4);
        // the joined one: depth 0, three keys; the other one is not used
        due("write(7, 1)", x.write(7, 1), 35);
        due("write(8, 1)", x.write(8, 1), 4);
    }

    @Says("\"bars\" of a KEY that would be put (bucket, depth, many: of that in which it would be sought; hash: its "
        + "HASH)")
    static void wordsOfAKeyThatWouldBePut() {
        String[] bars = {"bucket = 1", "depth = 1", "many = 1", "key = 3", "hash = 239", "time = 6", "mood = 4",
            "bucket+depth+many+key+hash+time+mood = 1+1+1+3+239+6+4"};
        for (String test : bars) {
            Desk x = fourKeys();
            x.under("bars if " + test);
            due("key(3, 3) by " + test, x.key(3, 3), 1);
            due("put(3, 1) by " + test, x.put(3, 1), -3);
            due("put(1, 1) by " + test, x.put(1, 1), 0);
        }
        Desk x = fourKeys();
        x.under("bars if bucket = 0 and many = 3 or key < 0 or hash < 0 or hash > 1000 + 23");
        due("key(3, 3)", x.key(3, 3), 0);
        due("key(6, 3)", x.key(6, 3), 1);
    }

    @Says("time: TIME as it is then.")
    static void timeAsItIsThen() {
        Desk x = new Desk();
        x.under("costs time;bars if time = 4");
        x.puts(0, 1, 2);
        due("the first write's TIME", x.write(0, 1), 0);
        due("the third write's TIME", x.write(2, 1), 2);
        x.put(0, 1);
        due("put(5, 1) at TIME 4", x.put(5, 1), -3);
        x.terms(0, 998);
        x.put(0, 2);
        x.put(0, 3);
        x.law("costs time/10;costs time-900 if time > 990");
        x.force(1);
        x.put(0, 4);
        due("TIME at last", x.count(14), 999);
        due("the write at 998", x.write(4, 1), 99);
        due("the last write: 999", x.write(6, 1), 99);
        due("compare(1, 0)", x.compare(1, 0), 99);
        x.terms(0, 5);
        due("compare(0, 0)", x.compare(0, 0), 5);
    }

    @Says("A CLAUSE HOLDS, if its \"if\" (if it has one) is so, and neither that nor its SUM is BROKEN.")
    static void clausesThatDoNotHold() {
        cost("costs 5;costs 6", 0, 6);
        cost("costs 5;costs 6 if 1=2", 0, 5);
        cost("costs 5;costs 6/0", 0, 5);
        cost("costs 5;costs 6/0 if 1=1", 0, 5);
        cost("costs 5;costs 6 if 1/0=1", 0, 5);
        cost("costs 5;costs 6 if not 1/0=1", 0, 5);
        cost("costs 5;costs 1000*1000*1000*2", 0, 5);
        cost("costs 5;costs 0-1000*1000*1000*2", 0, 5);
        cost("costs 5/0", 0, 1);
        cost("costs 5;bars", 0, 5);
        Desk x = fourKeys();
        x.under("bars if 1/0=1;bars if not 1/0=1;bars if 1=2");
        due("key(3, 3)", x.key(3, 3), 0);
        x.under("bars if 1/0=1;bars if 1=1;bars if 1=2");
        due("key(3, 3): one that holds is enough", x.key(3, 3), 1);
    }

    @Says("A write COSTS 0 .. 99 as the last \"costs\" that HOLDS tells (else the nearest), 1 without")
    static void costsFrom0To99AndTheNearest() {
        cost("costs 0", 0, 0);
        cost("costs 0-1", 0, 0);
        cost("costs 0-1000*1000*1000", 0, 0);
        cost("costs 1", 0, 1);
        cost("costs 99", 0, 99);
        cost("costs 100", 0, 99);
        cost("costs 1000*1000*1000", 0, 99);
        cost("bars", 0, 1);
        cost("costs 5 if 1=2", 0, 1);
        cost("costs 5 if 1=1;costs 6 if 1=1;costs 7 if 1=2", 0, 6);
        Desk x = new Desk();
        x.under("costs 100");
        x.put(1, 1);
        x.law("costs 0-1");
        x.force(1);
        x.put(1, 1);
        due("write(0, 1)", x.write(0, 1), 99);
        due("write(1, 1)", x.write(1, 1), 0);
        due("spent()", x.spent(), 99);
    }

    @Says("TIMES: a NUMBER 1 .. 20.")
    static void timesFrom1To20() {
        orders("flush 0 times 0", 14);
        orders("flush 0 times 00", 14);
        orders("flush 0 times 1", NO_FAULT);
        orders("flush 0 times 20", NO_FAULT);
        orders("flush 0 times 020", NO_FAULT);
        orders("flush 0 times 21", 14);
        orders("flush 0 times 1000", 14);
        orders("flush 0 times 1001", 14);
        orders("flush 0 times 4294967297", 14);
        orders("flush 0 times", 13);
        orders("flush 0 times  ", 15);
        orders("flush 0 times waits", 14);
        orders("flush 0 times [1]", 14);
        orders("flush 0 times 1+1", 15);
        orders("flush 0 times 1 times 1", 16);
        orders("flush 0 if 1=1 times 1", 15);
        orders("times 1", 0);
        law("costs 1 times 1", 8);
        law("bars times 1", 5);
        run("put 500 as done times 20", 20, 19);
        run("put 500 as done times 1", 1, 0);
    }

    @Says("\"value\" K | \"many\" B (K: a NUMBER 0 .. 999, B: 0 .. 23)")
    static void keysAndBucketsInWords() {
        orders("flush value 0", NO_FAULT);
        orders("flush value 999", NO_FAULT);
        orders("flush value 1000", 12);
        orders("flush value 0999", NO_FAULT);
        orders("flush value 4294967296", 12);
        orders("flush value", 11);
        orders("flush value  ", 13);
        orders("flush value keys", 12);
        orders("flush value -1", 12);
        orders("flush value [1]", 12);
        orders("flush value 1 1", 14);
        orders("flush many 0", NO_FAULT);
        orders("flush many 23", NO_FAULT);
        orders("flush many 24", 11);
        orders("flush many 023", NO_FAULT);
        orders("flush many 1000", 11);
        orders("flush many", 10);
        orders("flush many many 1", 11);
        orders("flush many value 1", 11);
        orders("flush valued 1", 6);
        law("costs value 1", 6);
        law("costs many 1", 11);
        run("put 500 as value 4", 1, 4);
        run("put 500 as value 0", 1, 0);
        run("put 999 as 33;put 500 as value 999", 2, 33);
        run("put 500 as many 0", 1, 3);
        run("put 500 as many 1", 1, 1);
        run("put 500 as many 23 + 7", 1, 6);
    }

    @Says("K, B, TIMES aside, NUMBERS and words count as PARTS.")
    static void partsOfOrders() {
        orders("flush value 1" + times("+value 1", 40) + times("+0", 9), NO_FAULT);
        orders("flush value 1" + times("+value 1", 40) + times("+0", 10), 13 + 8 * 40 + 2 * 9 + 1);
        orders("drop many 1" + times("+many 1", 49) + " times 20", NO_FAULT);
        orders("drop many 1" + times("+many 1", 50) + " times 20", 5 + 7 * 50);
        orders("drop many 1" + times("+many 1", 49) + "+[many 1]", 5 + 7 * 50 + 1);
        orders("put 1 as 1" + times("+1", 48), NO_FAULT);
        orders("put 1 as 1" + times("+1", 49), 107);
        orders(times("put 1 as 1 times 2;", 11) + "put 1 as 1 times 2", NO_FAULT);
        orders("put 1 as 1" + times("+1", 48) + ";flush 0", 10 + 96 + 7);
        orders("put 1 as 1" + times("+1", 46) + " times 1 if 1=1", NO_FAULT);
        orders("put 1 as 1" + times("+1", 46) + " times 1 if 1=1+keys", 10 + 92 + 15 + 1);
    }

    @Says("Run CLAUSE by CLAUSE, each as often as TIMES tell (once without)")
    static void onceWithoutTimes() {
        run("put 500 as 5", 1, 5);
        run("put 500 as value 500 + 2 times 3", 3, 5);
        run("put 500 as 1;put 500 as value 500 * 2 times 4;put 500 as value 500 + 1", 6, 17);
    }

    @Says("each time its \"if\" is asked (not run, if it is not so or BROKEN), then its SUMS from the left.")
    static void theIfThatIsNotSoOrBroken() {
        run("put 500 as 5 if 1=2", 0, -1);
        run("put 500 as 5 if 1/0=1", 0, -1);
        run("put 500 as 5 if not 1/0=1", 0, -1);
        run("put 500 as 5/0 if 1=2", 0, -1);
        run("put 5/0 as 5 if 1/0=1", 0, -1);
        run("drop 700 times 20 if done=1", 0, -1);
        run("put 500 as done times 20 if done<7", 7, 6);
        run("put 500 as 5 times 20 if not value 500 = 5", 1, 5);
        run("put 500 as 5/0 if 1=1", -3, -1);
        run("drop 700 if waits+0=6", -3, -1);
        run("crash 0;drop 700 if waits>0;put 500 as 9", 2, 9);
    }

    @Says("done: how many were run in this TEXT")
    static void doneIsOfThisText() {
        run("put 500 as done", 1, 0);
        run("flush 1 times 3;drop 1 if 1=2;put 500 as done", 4, 3);
        Desk x = fourKeys();
        due("orders", x.orders("flush 0 times 20;flush 0 times 20;flush 0 times 20"), 60);
        due("orders", x.orders("put 500 as done"), 1);
        due("key(500, 1)", x.key(500, 1), 0);
        due("orders", x.orders(times("flush 0 times 20;", 11) + "put 500 as done/10 times 20"), 240);
        due("key(500, 1)", x.key(500, 1), 23);
    }

    @Says("latest: what the latest put in it told (-1: none)")
    static void latestIsOfThisText() {
        run("put 500 as latest + 1", 1, 0);
        run("put 500 as latest", -3, -1);
        run("flush 1;put 500 as latest + 8", 2, 7);
        // 6 goes to the full bucket of 0, 2, 4: they part by sign 1
        run("put 6 as 1;flush 1;put 500 as latest + 4", 3, 5);
        run("put 6 as 1;put 6 as 2;put 500 as latest + 4", 3, 4);
        Desk x = fourKeys();
        due("a put by a call", x.put(6, 1), 1);
        due("orders", x.orders("put 500 as latest + 9"), 1);
        due("key(500, 1)", x.key(500, 1), 8);
    }

    @Says("waits: how many WRITES do, keys: how many KEYS there are, value: that of a KEY (-1: it is not there), "
        + "many: how many KEYS a BUCKET has (-1: it is not USED)")
    static void wordsOfOrdersAtTheirEnds() {
        run("put 500 as waits", 1, 6);
        run("flush waits;put 500 as waits", 2, 0);
        run("flush 1;put 500 as waits", 2, 5);
        run("put 500 as keys", 1, 4);
        run("crash 0;put 500 as keys", 2, 0);
        run("put 500 as value 77 + 1", 1, 0);
        run("put 500 as value 500 + 1", 1, 0);
        run("put 500 as many 2 + 1", 1, 0);
        run("crash 0;put 500 as many 0", 2, 0);
        run("crash 0;put 500 as many 1 + 6", 2, 5);
        run("put 500 as deep", 1, 1);
        run("crash 0;put 500 as deep", 2, 0);
        run("put 500 as time", 1, 6);
        run("put 500 as keys*10+value 2+many 1+waits", 1, 40 + 2 + 1 + 6);
        run("put 500 as value 4*10+value 2", 1, 42);
        run("put 500 as mood", -6, -1);
        run("put 500 as key", -6, -1);
    }

    /** Orders ahead of which the file is a rich one and that can't be at a clause: all is as it was ahead. */
    private static void cant(String orders, int clause) {
        refused("orders '" + orders + "'", x -> {
            rich(x);
            x.tape(orders);
        }, x -> x.end(0), Desk::orders, -3, "stopped()=" + clause, "fault()=-1");
    }

    @Says("One that can't be (a BROKEN SUM, as put(), drop(), flush(), crash() are REFUSED) ends it: all is as it was "
        + "ahead of it.")
    static void ordersThatCantBe() {
        String ahead = "put 1 as 9;drop 64;flush 2 times 3;put 700 as 1;";
        String[] cant = {"put 1/0 as 1", "put 1 as 1/0", "put 1000*1000*1000*2 as 1", "drop 1%0", "flush 1/0",
            "crash 1/0", "put 0-1 as 1", "put 1000 as 1", "put 1 as 0-1", "put 1 as 100", "put 900 as 1",
            "drop 0-1", "drop 1000", "drop 998", "flush 0-1", "flush waits+1",
            "crash 0-1", "crash waits+1"};
        for (String order : cant) {
            cant(order, 0);
            cant(ahead + order + ";put 2 as 2", 4);
        }
        cant(ahead + "put 192 as 1 times 20;put 256 as 1;put 2 as 2", 5);
    }

    @Says("all is as it was ahead of it.")
    static void ordersBehindThoseThatCouldNotBe() {
        granted("orders() behind those that could not be, and undo()", x -> {
            rich(x);
            x.orders("put 64 as 9 times 20;drop 998");
            x.tape("put 64 as 8");
        }, x -> x.orders("flush 0 if 1=2"), x -> x.orders() * 0 + x.undo(), 0);
        Desk x = new Desk();
        x.put(64, 7);
        due("orders() that can't be", x.orders("put 64 as 9 times 20;drop 998"), -3);
        due("orders()", x.orders("put 64 as 8"), 1);
        due("count(6)", x.count(6), 2);
        x.undo();
        due("key(64, 1)", x.key(64, 1), 7);
    }

    @Says("LAWS, 6 at most")
    static void manyTextsOnOneTape() {
        // what one text needed must not be missing for the next one
        Desk x = fourKeys();
        String asks = "put 500 as value 500+1+value 4-value 4" + times("+value 0", 30);
        x.put(500, 0);
        for (int i = 1; i <= 9; i++) {
            due("orders", x.orders(asks), 1);
            due("key(500, 1)", x.key(500, 1), i);
            due("orders with a fault", x.orders("flush 0" + times("+value 0", 40) + " 1"), -6);
        }
        Desk y = fourKeys();
        for (int i = 0; i < 6; i++) {
            due("law with a fault", y.law("costs 1" + times("+1", 49) + "?"), -6);
            due("law", y.law("costs " + i + times("+many-many", 20) + times("+1-1", 4)), i);
        }
        for (int i = 0; i < 6; i++) {
            due("compare(" + i + ", 0)", y.compare(i, 0), i);
        }
    }

    @Says("One that can't be")
    static void ordersThatJustCanBe() {
        String[] can = {"put 0 as 0", "put 999 as 99", "put 0 as 99", "flush 0", "flush waits", "crash 0",
            "crash waits", "drop 64", "put 64 as 1000*1000*1000/1000/1000/1000"};
        for (String order : can) {
            Desk x = new Desk();
            rich(x);
            due("orders '" + order + "'", x.orders(order), 1);
            due("stopped()", x.stopped(), -1);
            due("status()", x.status(), 0);
        }
    }
}
