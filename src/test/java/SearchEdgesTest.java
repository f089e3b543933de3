import java.math.BigInteger;

/** The sentences that name the edges of PUT, ORDER, LEAD, odds and lines: parts 3 and 4, promises 13 to 18. */
public final class SearchEdgesTest {
    private static final int NONE = -1, BAD = -2;
    private static final int MIN = Integer.MIN_VALUE, MAX = Integer.MAX_VALUE;
    private static final int LEAD = 0, WEAR = 1, CHANGE = 2, PENS = 3, LAW = 4, FILLERS = 5;
    private static final Due DUE = new Due();

    public static void main(String[] args) {
        fewest();
        upToTwo();
        asOften();
        anyPlace();
        lawAndPens();
        leastLong();
        secondNoLess();
        inThatOrder();
        leastRow();
        put();
        firstSeven();
        pausesLeast();
        asManyPens();
        orderOfLikeOnes();
        order();
        leastLead();
        lead();
        sixAndMore();
        whole();
        mean();
        fractions();
        lots();
        drawn();
        drawnHalts();
        fillers();
        line();
        bestLine();
        oddsRefused();
        lineRefused();
        DUE.end("SearchEdgesTest");
    }

    private static void due(String call, long got, long want) {
        DUE.due(call, got, want);
    }

    private static MayNotPause with(String verses, String hards, int... settings) {
        MayNotPause x = Due.with(verses, hards);
        for (int i = 0; i + 1 < settings.length; i += 2) {
            x.set(settings[i], settings[i + 1]);
        }
        return x;
    }

    private static void puts(String call, MayNotPause x, long... want) {
        DUE.row(call, Due.puts(x), want);
    }

    private static void noPut(String call, MayNotPause x) {
        puts(call, x, NONE, NONE, NONE, NONE, NONE, NONE);
    }

    private static void fewest() {
        DUE.sentence("PUT: the fewest HARD ones");
        // Two lists gain as much, and last but 8 breaths.
        puts("one ahead of two that are shorter", with("p010;p410", "p014;l010"), 1, 9, 1, 0, NONE, NONE);
        puts("two lists", with("p010;p410", "l010"), 2, 8, 0, 0, 0, 0);
        puts("none ahead of one", with("p010;p110", "l010"), 0, 4, NONE, NONE, NONE, NONE);
    }

    // Each list gains 2 breaths.
    private static void upToTwo() {
        DUE.sentence("(0 to 2; each as often as one likes, in any place) put into VERSES so that all is written without a PAUSE");
        puts("MAKE 0", with("p010", "l010"), 0, 2, NONE, NONE, NONE, NONE);
        puts("MAKE 1", with("p110", "l010"), 1, 4, 0, 0, NONE, NONE);
        puts("MAKE 2", with("p210", "l010"), 1, 4, 0, 0, NONE, NONE);
        puts("MAKE 3", with("p310", "l010"), 2, 6, 0, 0, 0, 0);
        puts("MAKE 4", with("p410", "l010"), 2, 6, 0, 0, 0, 0);
        noPut("MAKE 5 takes three", with("p510", "l010"));
    }

    private static void asOften() {
        DUE.sentence("each as often as one likes");
        puts("the last of four twice", with("p310", "p910;c910;r910;l010"), 2, 6, 0, 3, 0, 3);
        // They have a KNOT of 9 and, behind two of their KIND, of 7.
        puts("less KNOT", with("p910;p910", "p019"), 2, 24, 0, 0, 1, 0);
        puts("a chorus has none again", with("c010;p310", "c012"), 1, 8, 0, 0, NONE, NONE);
    }

    private static void anyPlace() {
        DUE.sentence("0 to as many as there are VERSES: ahead of that verse");
        puts("ahead of the first", with("p110;p010", "p010"), 1, 6, 0, 0, NONE, NONE);
        // The riddle takes 3 breaths to make, and these are over but ahead of the last.
        puts("ahead of the last", with("p010;p010;p010;p910", "r319"), 1, 21, 3, 0, NONE, NONE);
        // One behind all would gain nothing, so it is never told to be there.
        String twelve = Due.times(3, "p010") + ";p310;" + Due.times(7, "p010") + ";p910";
        puts("ahead of the twelfth", with(twelve, "r819"), 1, 37, 11, 0, NONE, NONE);
    }

    private static void lawAndPens() {
        DUE.sentence("LAW and pens as they are");
        puts("LAW 1", with("p210", "l010", LAW, 1), 1, 4, 0, 0, NONE, NONE);
        noPut("no pen for it", with("p210", "l010", WEAR, 1, PENS, 0));
        puts("one pen", with("p210", "l010", WEAR, 1, PENS, 1), 1, 4, 0, 0, NONE, NONE);
        puts("a pen that just lasts", with("p210", "l010", WEAR, 2, PENS, 0), 1, 4, 0, 0, NONE, NONE);
        puts("CHANGE", with("p210", "l010", WEAR, 1, PENS, 1, CHANGE, 5), 1, 9, 0, 0, NONE, NONE);
        noPut("no pen for VERSES", with("p010;p010", "l010", WEAR, 1, PENS, 0));
        puts("LEAD", with("p310", "l010", LEAD, 1), 1, 4, 0, 0, NONE, NONE);
    }

    private static void leastLong() {
        DUE.sentence("of like numbers the least LONG");
        puts("of those that do", with("p010;p810", "p019;p017;p016;p015"), 1, 12, 0, 2, NONE, NONE);
        puts("a later place that is shorter", with("p010;p410", "p014"), 1, 9, 1, 0, NONE, NONE);
        puts("two", with("p510", "l020;l010"), 2, 8, 0, 0, 0, 1);
    }

    private static void secondNoLess() {
        DUE.sentence("the second no less than the first");
        // The list is for the first verse; 3 breaths for the riddle are over ahead of the fourth.
        puts("places 0 and 3", with("p210;p010;p010;p010;p910", "l010;r319"), 2, 25, 0, 0, 3, 1);
        puts("in whatever order they are told", with("p210;p010;p010;p010;p910", "r319;l010"), 2, 25, 0, 1, 3, 0);
    }

    private static void inThatOrder() {
        DUE.sentence("two in one place are said in that order");
        puts("the list is for the riddle", with("p910", "r219;l010"), 2, 17, 0, 1, 0, 0);
        puts("the riddle behind the list", with("p910", "l010;r219"), 2, 17, 0, 0, 0, 1);
    }

    private static void leastRow() {
        DUE.sentence("of like ones the least row of both places");
        puts("like HARD ones", with("p210", "l010;l010"), 1, 4, 0, 0, NONE, NONE);
        puts("like HARD ones twice", with("p410", "l010;l010;l010;l010"), 2, 6, 0, 0, 0, 0);
        puts("like places", with("p010;p010;p410", "l010"), 1, 8, 0, 0, NONE, NONE);
        puts("the place comes ahead of the HARD one", with("p010;p010;p410", "l110;l010", LEAD, 0), 1, 8, 0, 1, NONE, NONE);
        puts("both places come first", with("l010;l910;l610", "p012;p017;r419"), 2, 23, 0, 1, 0, 1);
    }

    private static void put() {
        DUE.sentence("PUT (what = 0 to 5, as listed); NONE. BAD.");
        puts("no verses", with("", "l010"), 0, 0, NONE, NONE, NONE, NONE);
        noPut("no HARD ones", with("p110", ""));
        for (int what : new int[] {-1, 6, MIN, MAX}) {
            due("no such " + what, with("p210", "l010").put(what), BAD);
        }
    }

    private static void orders(String call, MayNotPause x, long... want) {
        DUE.row(call, Due.orders(x), want);
    }

    private static void firstSeven() {
        DUE.sentence("ORDER of the first seven VERSES at most (others aside)");
        orders("none", with("", ""), 0, 0, NONE, NONE, NONE, NONE, NONE, NONE, NONE);
        orders("one", with("p310", ""), 3, 5, 0, NONE, NONE, NONE, NONE, NONE, NONE);
        orders("six", with(Due.times(5, "p110") + ";p019", ""), 0, 21, 5, 0, 1, 2, 3, 4, NONE);
        orders("seven", with(Due.times(6, "p110") + ";p019", ""), 0, 23, 6, 0, 1, 2, 3, 4, 5);
        orders("the eighth aside", with(Due.times(7, "p110") + ";p019", ""), 1, 15, 0, 1, 2, 3, 4, 5, 6);
        orders("five aside", with(Due.times(7, "p010") + ";" + Due.times(5, "p919"), ""), 0, 14, 0, 1, 2, 3, 4, 5, 6);
    }

    private static void pausesLeast() {
        DUE.sentence("the row by which he PAUSES least together");
        orders("the one that gains time", with("p910;p019", ""), 0, 13, 1, 0, NONE, NONE, NONE, NONE, NONE);
        orders("ahead of a less LONG", with("p110;p019", "", LEAD, 0), 0, 13, 1, 0, NONE, NONE, NONE, NONE, NONE);
        orders("the less one first", with("p910;p110", ""), 9, 13, 0, 1, NONE, NONE, NONE, NONE, NONE);
    }

    private static void asManyPens() {
        DUE.sentence("(by LAW 0, with as many PENS as it takes)");
        orders("no PENS", with(Due.times(7, "p010"), "", WEAR, 1, PENS, 0), 0, 14, 0, 1, 2, 3, 4, 5, 6);
        orders("CHANGE all the same", with(Due.times(7, "p010"), "", WEAR, 1, PENS, 0, CHANGE, 2), 0, 26, 0, 1, 2, 3, 4, 5, 6);
        orders("LAW 1", with("p310", "", LAW, 1), 3, 5, 0, NONE, NONE, NONE, NONE, NONE, NONE);
    }

    private static void orderOfLikeOnes() {
        DUE.sentence("of like ones the least LONG, of like ones the least row");
        orders("the least LONG", with("p018;p010", "", LEAD, 99), 0, 11, 1, 0, NONE, NONE, NONE, NONE, NONE);
        orders("the least row", with("p011;p011;r010", "", LEAD, 99), 0, 9, 0, 1, 2, NONE, NONE, NONE, NONE);
    }

    private static void order() {
        DUE.sentence("ORDER: how long he PAUSES (i = -2), LONG (NONE), the i-th (0 to 6; NONE). BAD.");
        MayNotPause x = with("p310;p010", "");
        due("-2", x.order(-2), 2);
        due("NONE", x.order(-1), 6);
        due("0", x.order(0), 1);
        due("1", x.order(1), 0);
        due("2", x.order(2), NONE);
        due("6", x.order(6), NONE);
        for (int i : new int[] {-3, 7, MIN, MAX}) {
            due("no such " + i, x.order(i), BAD);
        }
    }

    private static void leastLead() {
        DUE.sentence("LEAST LEAD: the least LEAD (0 to 99) by which he never PAUSES and all is written");
        for (int make = 0; make <= 9; make++) {
            due("of one verse", with("p" + make + "10", "").lead(), make);
        }
        // 108 breaths to make, of which 11 are over while others are written: none needs more.
        due("the most that there may be", with(Due.times(12, "p910"), "").lead(), 97);
        due("whatever LEAD is", with("p910", "", LEAD, 99).lead(), 9);
        due("whatever LAW is", with("p910", "", LAW, 1).lead(), 9);
        due("just as many pens", with("p910;p910", "", WEAR, 1, PENS, 1).lead(), 17);
    }

    private static void lead() {
        DUE.sentence("LEAST LEAD; NONE.");
        due("not all is written", with("p010;p010", "", WEAR, 1, PENS, 0).lead(), NONE);
        due("no verses", with("", "", PENS, 0).lead(), 0);
        MayNotPause x = with("p910", "", LEAD, 3);
        x.lead();
        due("LEAD stays", x.count(6), 3);
        due("the poem stays", x.when(0, 0), 6);
    }

    private static void odds(String verses, long... want) {
        DUE.row(verses, Due.oddsOf(with(verses, "")), want);
    }

    private static void sixAndMore() {
        DUE.sentence("Of a verse with a KNOT that counts of 6 and more it is by as many sixteenths as it is above 5 "
            + "that it is never solved");
        odds("p010", 1, 1, 1, 1);
        odds("p015", 1, 1, 1, 1);
        odds("p016", 15, 16, 15, 16);
        odds("p017", 7, 8, 7, 8);
        odds("p018", 13, 16, 13, 16);
        odds("p019", 3, 4, 3, 4);
        odds("p010;p016", 1, 1, 2, 1);
        odds("c019;c019", 3, 4, 3, 2);
    }

    // 4, 3, 2 and 1 sixteenths of each of three KINDS.
    private static void whole() {
        DUE.sentence("WHOLE: the chance that none halts him of all VERSES (LAW, pens aside)");
        String twelve = "p019;l019;r019;p019;l019;r019;p019;l019;r019;p019;l019;r019";
        BigInteger above = BigInteger.valueOf(4095).pow(3), below = BigInteger.valueOf(8192).pow(3);
        DUE.row("of twelve", new long[] {with(twelve, "").odds(0), with(twelve, "").odds(1)},
            above.longValueExact(), below.longValueExact());
        MayNotPause x = with("p919;p919", "", LAW, 1, WEAR, 1, PENS, 0);
        DUE.row("LAW and pens aside", Due.oddsOf(x), 39, 64, 87, 64);
    }

    private static void mean() {
        DUE.sentence("MEAN: the mean of how many are written so");
        odds("p011;p011;p011", 1, 1, 3, 1);
        odds("p019;p011;p011", 3, 4, 9, 4);
        odds("p011;p011;r019", 3, 4, 11, 4);
        odds("p019;p019", 39, 64, 87, 64);
    }

    private static void fractions() {
        DUE.sentence("FRACTIONS are told in lowest terms, above and below (0 by 1).");
        odds("", 1, 1, 0, 1);
        odds("p017", 7, 8, 7, 8);
        odds("p019;p011;p011;p011", 3, 4, 3, 1);
        odds(Due.times(12, "p015"), 1, 1, 12, 1);
    }

    private static int lotOf(int seed) {
        return (int) ((1103515245L * seed + 12345 & 0xFFFFFFFFL) >> 16) % 16;
    }

    private static void lots() {
        DUE.sentence("LOTS of m: SEED becomes 1103515245 SEED and 12345, as ints that wrap; its upper 16 bits as a number "
            + "from 0 on, modulo m.");
        MayNotPause nine = with("p019", ""), six = with("p016", "");
        // Lots worked out by hand: 0, 6, 10, 0 and 9.
        int[][] byHand = {{0, 0}, {1, 1}, {-1, 1}, {MIN, 0}, {MAX, 1}};
        for (int[] each : byHand) {
            due("seed " + each[0], nine.drawn(each[0]), each[1]);
        }
        for (int seed = -100; seed <= 100; seed++) {
            int wide = seed * 21474836;
            due("nine by " + wide, nine.drawn(wide), lotOf(wide) < 4 ? 0 : 1);
            due("six by " + wide, six.drawn(wide), lotOf(wide) < 1 ? 0 : 1);
        }
    }

    private static void drawn() {
        DUE.sentence("DRAWN by a SEED: verse by verse, a LOT of 16 for each that may halt him: how many are written.");
        due("no verses", with("", "").drawn(0), 0);
        due("none that may", with(Due.times(12, "p015"), "").drawn(0), 12);
        // The seed 0 has a LOT of 0 first: it halts whoever may be halted.
        for (int ahead = 0; ahead < 12; ahead++) {
            String verses = (ahead > 0 ? Due.times(ahead, "p010") + ";" : "") + "r016";
            due(ahead + " ahead", with(verses, "").drawn(0), ahead);
        }
        due("no LOT for a KNOT of 5", with("p015;r010;l016", "").drawn(0), 2);
        due("LAW and pens aside", with("p910;p910", "", LAW, 1, WEAR, 1, PENS, 0).drawn(0), 2);
        MayNotPause x = with("p019", "");
        due("it is the same again", x.drawn(5), x.drawn(5));
    }

    private static void drawnHalts() {
        DUE.sentence("then nothing more is written");
        for (int seed = 0; seed < 100; seed++) {
            int second = 1103515245 * seed + 12345;
            int want = lotOf(seed) < 4 ? 0 : lotOf(second) < 3 ? 1 : 3;
            due("by " + seed, with("p019;p019;p010", "").drawn(seed), want);
        }
    }

    private static void fillers() {
        DUE.sentence("FILLERS (bits; none at first): VERSES that were but to gain time.");
        MayNotPause x = with(Due.times(12, "p010"), "");
        due("none at first", x.count(7), 0);
        due("not called wrongly", x.line(10, 1), 0);
        x.set(FILLERS, 4095);
        due("all twelve", x.count(7), 12);
        due("not called wrongly", x.line(10, 1), 12);
        x.set(FILLERS, 1 << 11);
        due("the twelfth", x.line(10, 1), 1);
        x.undo(0);
        due("it is not there", x.count(7), 0);
        due("no error", x.line(10, 1), 0);
    }

    private static void line() {
        DUE.sentence("By a LINE h (0 to 10) those with a told KNOT of h and more are called so: called wrongly, not called wrongly");
        MayNotPause x = with("p010;p015;p019;p019", "");
        int[] called = {4, 3, 3, 3, 3, 3, 2, 2, 2, 2, 0};
        for (int h = 0; h <= 10; h++) {
            due("no fillers, called by " + h, x.line(h, 0), called[h]);
            due("no fillers, not called by " + h, x.line(h, 1), 0);
        }
        x.set(FILLERS, 15);
        for (int h = 0; h <= 10; h++) {
            due("all fillers, called by " + h, x.line(h, 0), 0);
            due("all fillers, not called by " + h, x.line(h, 1), 4 - called[h]);
        }
        due("the told KNOT, not the one that counts", with("c019;c019", "").line(9, 0), 2);
    }

    private static void bestLine() {
        DUE.sentence("BEST LINE: the fewest errors together, of like ones the least.");
        int[][] each = {{0, 10, 0}, {1, 10, 1}, {2, 10, 1}, {4, 6, 1}, {8, 6, 1}, {12, 6, 0}, {14, 1, 0}, {15, 0, 0}, {7, 0, 1},
            {3, 0, 2}};
        for (int[] one : each) {
            MayNotPause x = with("p010;p015;p019;p019", "", FILLERS, one[0]);
            due("fillers " + one[0], x.line(NONE, 0), one[1]);
            due("errors by " + one[0], x.line(NONE, 1), one[2]);
        }
        due("no verses", with("", "").line(NONE, 0), 0);
        due("no errors", with("", "", FILLERS, 4095).line(NONE, 1), 0);
    }

    private static void oddsRefused() {
        DUE.sentence("Where the answer is a long, a refusal -x is the least long and x more.");
        for (int what : new int[] {-1, 4, MIN, MAX}) {
            due("no such " + what, with("p019", "").odds(what), Long.MIN_VALUE + 2);
        }
        due("the least", with("p019", "").odds(0), 3);
        due("the most", with("p019", "").odds(3), 4);
    }

    private static void lineRefused() {
        DUE.sentence("By a LINE: called wrongly (what = 0), not called wrongly (1); BEST LINE (h = NONE, what = 0), "
            + "its errors (h = NONE, what = 1). BAD.");
        MayNotPause x = with("p019", "");
        for (int h : new int[] {-2, 11, MIN, MAX}) {
            due("no line " + h, x.line(h, 0), BAD);
            due("no line " + h, x.line(h, 1), BAD);
        }
        for (int what : new int[] {-1, 2, MIN, MAX}) {
            for (int h : new int[] {NONE, 0, 10}) {
                due("no such " + what + " by " + h, x.line(h, what), BAD);
            }
        }
        due("the least", x.line(0, 0), 1);
        due("the most", x.line(10, 0), 0);
        due("BEST LINE", x.line(NONE, 0), 10);
    }
}
