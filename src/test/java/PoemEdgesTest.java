/** The sentences that name the edges of a poem, breath by breath: 'Terms', part 2, promises 8 to 12. */
public final class PoemEdgesTest {
    private static final int NONE = -1, BAD = -2, NOT = -3;
    private static final int MIN = Integer.MIN_VALUE, MAX = Integer.MAX_VALUE;
    private static final int LEAD = 0, WEAR = 1, CHANGE = 2, PENS = 3, LAW = 4;
    // 323 breaths: the last two of these begin in breaths 273 and 297.
    private static final String LONG_POEM = "p999;l999;r999;p999;l999;r999;p999;l999;r999;p999;l999;r999";
    private static final Due DUE = new Due();

    public static void main(String[] args) {
        chorusAgain();
        lessKnot();
        understoodAndWritten();
        riddles();
        lead();
        inTheirOrder();
        lists();
        begins();
        pauses();
        wearAtFirst();
        wear();
        writtenWith();
        change();
        newPen();
        spare();
        law();
        makesOn();
        timesOfOne();
        notCome();
        written();
        longOf();
        judged();
        rest();
        said();
        made();
        inHand();
        inHandUnwritten();
        when();
        poem();
        restRefused();
        doing();
        DUE.end("PoemEdgesTest");
    }

    private static void due(String call, long got, long want) {
        DUE.due(call, got, want);
    }

    private static MayNotPause with(String verses, int... settings) {
        MayNotPause x = Due.with(verses);
        for (int i = 0; i + 1 < settings.length; i += 2) {
            x.set(settings[i], settings[i + 1]);
        }
        return x;
    }

    private static void counting(String verses, int what, int... want) {
        MayNotPause x = with(verses);
        for (int v = 0; v < want.length; v++) {
            due(verses + " verse " + v + " " + what, x.verse(v, what), want[v]);
        }
    }

    private static void chorusAgain() {
        DUE.sentence("of a chorus behind another chorus MAKE is 0 and KNOT is 0");
        counting("c325;p110;c436;c999", 4, 3, 1, 0, 0);
        counting("c325;p110;c436;c999", 5, 5, 0, 0, 0);
        counting("c325;p110;c436;c999", 0, 3, 1, 4, 9);
        counting("p919;l919;r919;c919", 4, 9, 9, 9, 9);
        counting("p919;l919;r919;c919", 5, 9, 9, 9, 9);
        due("MAKE of all", with("c325;p110;c436;c999").count(5), 4);
    }

    private static void lessKnot() {
        DUE.sentence("of all others KNOT is less by 1 for each verse of the same KIND ahead (0 at least)");
        counting("p012;r012;p012;r011;p012;r019;p012;l010", 5, 2, 2, 1, 0, 0, 7, 0, 0);
        for (String kind : new String[] {"p", "l", "r"}) {
            counting(Due.times(12, kind + "919"), 5, 9, 8, 7, 6, 5, 4, 3, 2, 1, 0, 0, 0);
            counting(Due.times(12, kind + "919"), 4, 9, 9, 9, 9, 9, 9, 9, 9, 9, 9, 9, 9);
            counting(Due.times(12, kind + "919"), 2, 9, 9, 9, 9, 9, 9, 9, 9, 9, 9, 9, 9);
        }
    }

    private static void understoodAndWritten() {
        DUE.sentence("The god understands it in KNOT breaths, and writes it in SAY breaths");
        DUE.row("p010", Due.whens(with("p010"), 0), 0, 1, 1, 2, 0);
        DUE.row("p019", Due.whens(with("p019"), 0), 0, 1, 10, 11, 0);
        DUE.row("c090", Due.whens(with("c090"), 0), 0, 9, 9, 18, 0);
        DUE.row("l099", Due.whens(with("l099"), 0), 0, 9, 18, 27, 0);
    }

    private static void riddles() {
        DUE.sentence("a riddle is written in 2 breaths more");
        DUE.row("r010", Due.whens(with("r010"), 0), 0, 1, 1, 4, 0);
        DUE.row("r099", Due.whens(with("r099"), 0), 0, 9, 18, 29, 0);
    }

    private static void lead() {
        DUE.sentence("LEAD (0 to 99; 0 at first) breaths are over ahead of breath 0, in which he makes verses.");
        DUE.row("without", Due.whens(with("p910"), 0), 9, 10, 10, 11, 9);
        DUE.row("one too few", Due.whens(with("p910", LEAD, 8), 0), 1, 2, 2, 3, 1);
        DUE.row("just so many", Due.whens(with("p910", LEAD, 9), 0), 0, 1, 1, 2, 0);
        DUE.row("the most", Due.whens(with("p910", LEAD, 99), 0), 0, 1, 1, 2, 0);
        due("he makes the rest of it", with("p910", LEAD, 8).doing(0, 1), 0);
        due("of 12 verses with 108 breaths 9 are left", with(Due.times(12, "p910"), LEAD, 99).when(11, 4), 0);
        due("breath 1 is for the twelfth", with(Due.times(12, "p910"), LEAD, 99).doing(1, 1), 11);
    }

    private static void inTheirOrder() {
        DUE.sentence("He makes one verse behind the other, in their order, in all breaths in which he does not say one");
        MayNotPause x = with("p210;p010;p310");
        DUE.row("made", Due.doings(x, 1, 0, 10), 0, 0, NONE, 2, NONE, 2, 2, NONE, NONE, NONE);
        DUE.row("said", Due.doings(x, 0, 0, 10), NONE, NONE, 0, NONE, 1, NONE, NONE, 2, NONE, NONE);
    }

    private static void lists() {
        DUE.sentence("while he says a list he makes, too");
        MayNotPause x = with("l020;p510");
        DUE.row("made", Due.doings(x, 1, 0, 7), 1, 1, 1, 1, 1, NONE, NONE);
        DUE.row("said", Due.doings(x, 0, 0, 7), 0, 0, NONE, NONE, NONE, 1, NONE);
        DUE.row("a pause of 1", Due.whens(x, 1), 5, 6, 6, 7, 1);
        DUE.row("a chorus is no list", Due.whens(with("c020;p510"), 1), 7, 8, 8, 9, 3);
    }

    private static void begins() {
        DUE.sentence("A verse BEGINS as soon as the one ahead is written (the first in breath 0), and it is made.");
        int[] begins = {2, 2, 3, 4, 5, 6, 7, 8, 9, 10};
        for (int make = 0; make <= 9; make++) {
            MayNotPause x = with("p010;p" + make + "10");
            due("the first", x.when(0, 0), 0);
            due("with MAKE " + make, x.when(1, 0), begins[make]);
            due("the first is not made", with("p" + make + "10").when(0, 0), make);
        }
    }

    private static void pauses() {
        DUE.sentence("How many breaths later that is, as it is not made: he PAUSES so long.");
        for (int make = 0; make <= 9; make++) {
            MayNotPause x = with("p010;p" + make + "10");
            due("with MAKE " + make, x.when(1, 4), Math.max(0, make - 1));
            due("together", x.poem(2), Math.max(0, make - 1));
            due("the first with MAKE " + make, with("p" + make + "10").when(0, 4), make);
        }
        due("together of all", with("p110;p310;p310").poem(2), 1 + 2 + 2);
    }

    private static void wearAtFirst() {
        DUE.sentence("WEAR (1 to 99; 99 at first): a pen writes for so many breaths");
        due("99 breaths", with(Due.times(11, "p090")).poem(3), 0);
        due("108 breaths", with(Due.times(12, "p090")).poem(3), 1);
        due("99 with 98", with(Due.times(11, "p090"), WEAR, 98).poem(3), 1);
        due("the least", with("p010;p010;p010", WEAR, 1).poem(3), 2);
    }

    private static void wear() {
        DUE.sentence("when one that was written with does not last for all of a verse, a new one is taken ahead of writing it");
        due("just so long", with("p040;p040", WEAR, 8).poem(3), 0);
        due("one less", with("p040;p040", WEAR, 7).poem(3), 1);
        due("a riddle's 2 breaths more, just so long", with("r010;r010", WEAR, 6).poem(3), 0);
        due("a riddle's 2 breaths more", with("r010;r010", WEAR, 5).poem(3), 1);
        due("what a pen has left is lost with it", with("p040;p050;p040", WEAR, 8).poem(3), 2);
        due("the new one lasts as long", with("p040;p050;p030", WEAR, 8).poem(3), 1);
    }

    private static void writtenWith() {
        DUE.sentence("when one that was written with does not last for all of a verse");
        DUE.row("the first was not written with", Due.poems(with("r090", WEAR, 1, CHANGE, 9, PENS, 0)), 1, 20, 0, 0);
    }

    private static void change() {
        DUE.sentence("which takes CHANGE (0 to 9; 0 at first) breaths");
        DUE.row("at first", Due.whens(with("p010;p010", WEAR, 1), 1), 2, 3, 3, 4, 0);
        DUE.row("one", Due.whens(with("p010;p010", WEAR, 1, CHANGE, 1), 1), 2, 3, 3, 5, 0);
        DUE.row("the most", Due.whens(with("p010;p010", WEAR, 1, CHANGE, 9), 1), 2, 3, 3, 13, 0);
        due("he makes meanwhile", with("p010;p010;p910", WEAR, 1, CHANGE, 7).when(2, 4), 0);
        due("one breath too few", with("p010;p010;p910", WEAR, 1, CHANGE, 6).when(2, 4), 1);
        due("no new one, no CHANGE", with("p010;p010", CHANGE, 9).poem(1), 4);
    }

    private static void newPen() {
        DUE.sentence("with a new one any verse can be written");
        DUE.row("11 breaths with a WEAR of 1", Due.poems(with("r090;r090", WEAR, 1, PENS, 1)), 2, 40, 0, 1);
        DUE.row("a worn one for none", Due.poems(with("r090;p010", WEAR, 1, PENS, 0)), 1, 20, 0, 0);
    }

    private static void spare() {
        DUE.sentence("PENS (0 to 9; 9 at first) are spare: where there is none, the poem is at its END: "
            + "that verse is not written, and no more is said");
        String twelve = Due.times(12, "p010");
        MayNotPause x = with(twelve, WEAR, 1);
        DUE.row("nine at first", Due.poems(x), 10, 20, 0, 9);
        DUE.row("the ninth is taken", Due.whens(x, 9), 18, 19, 19, 20, 0);
        DUE.row("not written", Due.whens(x, 10), 20, 21, 21, NONE, 0);
        DUE.row("not said", Due.whens(x, 11), NONE, NONE, NONE, NONE, NONE);
        due("no more is said", x.doing(21, 0), NONE);
        for (int pens = 0; pens <= 9; pens++) {
            DUE.row(pens + " pens", Due.poems(with(twelve, WEAR, 1, PENS, pens)), pens + 1, 2 * pens + 2, 0, pens);
        }
        due("none is taken where none is", with("p010;p010", WEAR, 1, PENS, 0).poem(3), 0);
        due("none is needed", with(twelve, WEAR, 12, PENS, 0).poem(0), 12);
        // 2 and 1 breaths with a WEAR of 2: the third verse could be written, but the poem has ended.
        due("nor what a pen would last for", with("p010;p020;p010", WEAR, 2, PENS, 0).poem(0), 1);
    }

    private static void law() {
        DUE.sentence("LAW (0, 1; 0 at first): by 1 the poem is at its END where he would PAUSE: that verse is not said.");
        DUE.row("by 0", Due.poems(with("p010;p210", LAW, 0)), 2, 5, 1, 0);
        DUE.row("by 1", Due.poems(with("p010;p210", LAW, 1)), 1, 2, 0, 0);
        DUE.row("at first", Due.poems(with("p010;p210")), 2, 5, 1, 0);
        DUE.row("he would not pause", Due.poems(with("p010;p110", LAW, 1)), 2, 4, 0, 0);
        DUE.row("not said", Due.whens(with("p010;p210;p010", LAW, 1), 1), NONE, NONE, NONE, NONE, NONE);
        DUE.row("nor the next", Due.whens(with("p010;p210;p010", LAW, 1), 2), NONE, NONE, NONE, NONE, NONE);
        DUE.row("the first", Due.poems(with("p110;p010", LAW, 1)), 0, 0, 0, 0);
        DUE.row("with LEAD", Due.poems(with("p110;p010", LAW, 1, LEAD, 1)), 2, 4, 0, 0);
        DUE.row("nothing said", Due.doings(with("p010;p210", LAW, 1), 0, 0, 6), 0, NONE, NONE, NONE, NONE, NONE);
    }

    private static void makesOn() {
        DUE.sentence("(He makes on, whatever ends.)");
        DUE.row("by LAW", Due.doings(with("p010;p210;p310", LAW, 1), 1, 0, 8), NONE, 1, 1, 2, 2, 2, NONE, NONE);
        DUE.row("from breath 0", Due.doings(with("p210;l110", LAW, 1), 1, 0, 5), 0, 0, 1, NONE, NONE);
        MayNotPause x = with("p010;p010;p410", WEAR, 1, PENS, 0);
        DUE.row("by pens", Due.doings(x, 1, 0, 8), NONE, 2, NONE, 2, 2, 2, NONE, NONE);
    }

    private static void timesOfOne() {
        DUE.sentence("in which breath a verse BEGINS, is said, understood, written (the first breath behind it), "
            + "how long he PAUSES for it");
        DUE.row("p111", Due.whens(with("p111"), 0), 1, 2, 3, 4, 1);
        DUE.row("p111 with LEAD 1", Due.whens(with("p111", LEAD, 1), 0), 0, 1, 2, 3, 0);
        DUE.row("beyond breath 299", Due.whens(with(LONG_POEM), 11), 297, 306, 312, 323, 0);
    }

    private static void notCome() {
        DUE.sentence("NONE: it does not come to that.");
        DUE.row("no pen", Due.whens(with("p010;p012", WEAR, 1, PENS, 0), 1), 2, 3, 4, NONE, 0);
        DUE.row("no pen after a pause", Due.whens(with("p010;p212", WEAR, 1, PENS, 0), 1), 3, 4, 5, NONE, 1);
        DUE.row("by LAW", Due.whens(with("p110", LAW, 1), 0), NONE, NONE, NONE, NONE, NONE);
        DUE.row("it does", Due.whens(with("p110", LAW, 0), 0), 1, 2, 2, 3, 1);
    }

    private static void written() {
        DUE.sentence("WRITTEN: how many verses are");
        due("no verses", with("").poem(0), 0);
        due("none", with("p110;p010", LAW, 1).poem(0), 0);
        due("all twelve", with(Due.times(12, "p010")).poem(0), 12);
        due("all but the last", with("p010;p010", WEAR, 1, PENS, 0).poem(0), 1);
    }

    private static void longOf() {
        DUE.sentence("LONG: the breath in which the last that is written is so (0 without)");
        due("no verses", with("").poem(1), 0);
        due("without one that is written", with("p110;p010", LAW, 1).poem(1), 0);
        due("the last", with(LONG_POEM).poem(1), 323);
        due("of those that are written", with("p010;p010", WEAR, 1, PENS, 0).poem(1), 2);
    }

    private static void judged() {
        DUE.sentence("JUDGED: the first verse for which he PAUSES, or that is not written; NONE.");
        due("no verses", with("").judged(), NONE);
        due("none", with("p010;p110").judged(), NONE);
        due("a pause of 1", with("p010;p210").judged(), 1);
        due("the first of two", with("p010;p210;p910").judged(), 1);
        due("the twelfth", with(Due.times(11, "p010") + ";p910", WEAR, 11, PENS, 0).judged(), 11);
        due("the twelfth without a pause", with(Due.times(12, "p010"), WEAR, 11, PENS, 0).judged(), 11);
        due("a pause ahead of one that is not written", with("p110;p010;p010", WEAR, 1, PENS, 0).judged(), 0);
        due("not written ahead of a pause", with("p010;p010;p910", WEAR, 1, PENS, 0).judged(), 1);
        due("not said", with("p110", LAW, 1).judged(), 0);
    }

    private static void rest() {
        DUE.sentence("REST of a verse that BEGINS: breaths in which he could make by then (LEAD, too), "
            + "less MAKE of all verses up to it.");
        due("none after a pause", with("p910").rest(0), 0);
        due("just made", with("p910", LEAD, 9).rest(0), 0);
        due("the most LEAD", with("p010", LEAD, 99).rest(0), 99);
        due("its own MAKE", with("p210;p310", LEAD, 9).rest(0), 7);
        due("MAKE of all up to it", with("p210;p310;p910", LEAD, 9).rest(1), 5);
        due("a chorus again is made", with("c210;c910", LEAD, 9).rest(1), 8);
        due("a list gains as it is said", with("l030;p010").rest(1), 6);
        due("a plain one does not", with("p030;p010").rest(1), 3);
        due("pauses count", with("p010;p410;p010").rest(2), 1);
        due("CHANGE counts", with("p010;p010;p010", WEAR, 1, CHANGE, 9).rest(2), 11);
        due("not written, but begun", with("p010;p010", WEAR, 1, PENS, 0).rest(1), 1);
    }

    private static void said() {
        DUE.sentence("DOING in a breath (0 on): which verse is said (0)");
        DUE.row("from when it BEGINS", Due.doings(with("p120;p010"), 0, 0, 7), NONE, 0, 0, NONE, NONE, 1, NONE);
        due("in breath 299", with(LONG_POEM).doing(299, 0), 11);
        due("not ahead of 0", with("p010").doing(-1, 0), BAD);
    }

    private static void made() {
        DUE.sentence("which one he makes (1)");
        due("in breath 0", with("p010;p110").doing(0, 1), NONE);
        due("in breath 1", with("p010;p110").doing(1, 1), 1);
        due("all is made", with("p010;p110").doing(2, 1), NONE);
        due("the last breath of twelve", with(Due.times(12, "p910"), LAW, 1).doing(107, 1), 11);
        due("the breath behind", with(Due.times(12, "p910"), LAW, 1).doing(108, 1), NONE);
        due("in breath 299", with(LONG_POEM).doing(299, 1), NONE);
    }

    private static void inHand() {
        DUE.sentence("which one the god has in hand, from when it is said till it is written");
        DUE.row("p111", Due.doings(with("p111", LEAD, 1), 2, 0, 5), NONE, 0, 0, NONE, NONE);
        DUE.row("while a pen is changed", Due.doings(with("p010;p010", WEAR, 1, CHANGE, 2), 2, 0, 7),
            NONE, 0, NONE, 1, 1, 1, NONE);
        due("in breath 299", with(LONG_POEM, LEAD, 9).doing(299, 2), 11);
        due("the last ahead of it", with(LONG_POEM).doing(296, 2), 10);
        due("written then", with(LONG_POEM).doing(297, 2), NONE);
    }

    private static void inHandUnwritten() {
        DUE.sentence("till it is understood, if it is not written");
        DUE.row("with a KNOT of 1", Due.doings(with("p010;p012", WEAR, 1, PENS, 0), 2, 0, 6), NONE, 0, NONE, 1, NONE, NONE);
        DUE.row("with none", Due.doings(with("p010;p010", WEAR, 1, PENS, 0), 2, 0, 6), NONE, 0, NONE, NONE, NONE, NONE);
        DUE.row("not said", Due.doings(with("p010;p219", LAW, 1), 2, 0, 6), NONE, 0, NONE, NONE, NONE, NONE);
    }

    private static void when() {
        DUE.sentence("When a verse BEGINS (what = 0), is said (1), understood (2), written (3), how long he PAUSES for it (4); "
            + "NONE. BAD.");
        MayNotPause x = with("p010;p010");
        for (int v : new int[] {-1, 2, 12, MIN, MAX}) {
            due("no verse " + v, x.when(v, 0), BAD);
        }
        for (int what : new int[] {-1, 5, MIN, MAX}) {
            due("no such " + what, x.when(0, what), BAD);
        }
        due("no verses", with("").when(0, 0), BAD);
        due("the last", x.when(1, 4), 0);
    }

    private static void poem() {
        DUE.sentence("WRITTEN (what = 0), LONG (1), all PAUSES together (2), pens that are taken anew (3). BAD.");
        DUE.row("all four", Due.poems(with("p210;p010;p010", WEAR, 2)), 3, 8, 2, 1);
        for (int what : new int[] {-1, 4, MIN, MAX}) {
            due("no such " + what, with("p010").poem(what), BAD);
        }
    }

    private static void restRefused() {
        DUE.sentence("REST. BAD; NOT: it does not BEGIN.");
        MayNotPause x = with("p010;p210;p010", LAW, 1);
        due("begins", x.rest(0), 0);
        due("by LAW", x.rest(1), NOT);
        due("behind it", x.rest(2), NOT);
        due("behind the last pen", with("p010;p010;p010", WEAR, 1, PENS, 0).rest(2), NOT);
        for (int v : new int[] {-1, 3, 12, MIN, MAX}) {
            due("no verse " + v, x.rest(v), BAD);
        }
    }

    private static void doing() {
        DUE.sentence("DOING (breath 0 to 299); NONE. BAD.");
        MayNotPause x = with("p010");
        for (int breath : new int[] {-1, 300, MIN, MAX}) {
            for (int what = 0; what < 3; what++) {
                due("no breath " + breath, x.doing(breath, what), BAD);
            }
        }
        for (int what : new int[] {-1, 3, MIN, MAX}) {
            due("no such " + what, x.doing(0, what), BAD);
            due("no such " + what, x.doing(299, what), BAD);
        }
        for (int what = 0; what < 3; what++) {
            due("the last breath", x.doing(299, what), NONE);
            due("no verses", with("").doing(0, what), NONE);
        }
        due("the first breath", x.doing(0, 0), 0);
    }
}
