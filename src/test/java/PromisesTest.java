/** Each promise by its number: ordinary inputs, the edges that the document names, and wrong inputs. */
public final class PromisesTest {
    private static final int NONE = -1, BAD = -2, NOT = -3, FULL = -4;
    private static final int NULL = -11, INDEX = -12, CAST = -13, STORE = -14, SIZE = -15;
    private static final int LEAST = Integer.MIN_VALUE;
    private static final int LEAD = 0, WEAR = 1, CHANGE = 2, PENS = 3, LAW = 4, FILLERS = 5;
    private static final int[] NOT_A_TEXT = {-1, 2, LEAST, Integer.MAX_VALUE};
    private static final int[] NOT_A_SHEET = {-1, 4, LEAST, Integer.MAX_VALUE};
    private static final int[] NOT_A_FORM = {-1, 3, LEAST, Integer.MAX_VALUE};
    private static final Due DUE = new Due();

    public static void main(String[] args) {
        newObject();
        type();
        wipe();
        undo();
        fault();
        set();
        verse();
        when();
        pens();
        poem();
        judged();
        rest();
        doing();
        put();
        putTies();
        order();
        lead();
        odds();
        drawn();
        line();
        seenAndForget();
        leads();
        read();
        sheet();
        lose();
        layAndGet();
        copy();
        write();
        count();
        digest();
        DUE.end("PromisesTest");
    }

    private static void due(String call, long got, long want) {
        DUE.due(call, got, want);
    }

    private static void row(String call, long[] got, long... want) {
        DUE.row(call, got, want);
    }

    private static void newObject() {
        MayNotPause x = new MayNotPause();
        for (int what = 0; what <= 8; what++) {
            due("1 count " + what, x.count(what), 0);
        }
        due("1 fault 0", x.fault(0), NONE);
        due("1 fault 1", x.fault(1), NONE);
        for (int s = 0; s < 4; s++) {
            due("1 lose " + s, x.lose(s), NULL);
        }
        int[] first = {0, 99, 0, 9, 0, 0};
        for (int what = 0; what < 6; what++) {
            due("1 set " + what, x.set(what, first[what]), first[what]);
        }
        row("1 poem", Due.poems(x), 0, 0, 0, 0);
    }

    private static void type() {
        MayNotPause x = new MayNotPause();
        for (int text : NOT_A_TEXT) {
            due("2 type " + text, x.type(text, 112), BAD);
        }
        due("2 type below", x.type(0, -1), BAD);
        due("2 type above", x.type(0, 256), BAD);
        due("2 nothing came", x.count(2), 0);
        for (int i = 1; i <= 59; i++) {
            due("2 type 0", x.type(0, i % 2 * 255), i);
        }
        due("2 full", x.type(0, 112), FULL);
        due("2 bad ahead of full", x.type(0, 256), BAD);
        due("2 full changes nothing", x.count(2), 59);
        for (int i = 1; i <= 19; i++) {
            due("2 type 1", x.type(1, 0), i);
        }
        due("2 full", x.type(1, 0), FULL);
    }

    private static void wipe() {
        MayNotPause x = Due.with("p111;p11", "r139");
        due("3 wipe 0", x.wipe(0), 8);
        due("3 wiped", x.count(2), 0);
        due("3 the other stays", x.count(1), 1);
        due("3 wipe again", x.wipe(0), 0);
        due("3 wipe 1", x.wipe(1), 4);
        for (int text : NOT_A_TEXT) {
            due("3 wipe " + text, x.wipe(text), BAD);
        }
    }

    private static void undo() {
        MayNotPause x = Due.with("p111;c222;l333", "r139");
        for (int text : NOT_A_TEXT) {
            due("4 undo " + text, x.undo(text), BAD);
        }
        due("4 undo", x.undo(0), 2);
        due("4 with its ;", x.count(2), 9);
        due("4 well", x.fault(0), NONE);
        due("4 the poem is told anew", x.poem(0), 2);
        due("4 he makes no third", x.count(5), 3);
        due("4 undo", x.undo(0), 1);
        due("4 undo the last", x.undo(0), 0);
        due("4 no bytes", x.count(2), 0);
        due("4 none", x.undo(0), NOT);
        due("4 undo 1", x.undo(1), 0);
        Due.typeAll(x, 0, "p111;");
        due("4 with a fault there are none", x.undo(0), NOT);
        due("4 it changes nothing", x.count(2), 5);
    }

    private static void fault() {
        for (int text : NOT_A_TEXT) {
            due("5 fault " + text, new MayNotPause().fault(text), BAD);
        }
        String[] texts = {"", "p", "p0", "p01", "p010", "p010;", "p010;r999", "p010;r9999", "P010", "q010", ";",
            "p0;", "p01;", "p000", "pp", "p:11", "p/11", "p1:1", "p11:", "p11/", "p010c", "p010;;", "c090;l090;x",
            "p010;p0", "p010,p010"};
        int[] places = {NONE, 1, 2, 3, NONE, 5, NONE, 9, 0, 0, 0,
            2, 3, 2, 1, 1, 1, 2, 3, 3, 4, 5, 10,
            7, 4};
        for (int i = 0; i < texts.length; i++) {
            due("5 fault of " + texts[i], Due.with(texts[i], "").fault(0), places[i]);
            if (texts[i].length() <= 19) {
                due("5 fault of hard " + texts[i], Due.with("", texts[i]).fault(1), places[i]);
            }
        }
        String twelve = "p111;".repeat(12).substring(0, 59);
        due("5 twelve verses", Due.with(twelve, "").fault(0), NONE);
        due("5 four hard ones", Due.with("", twelve.substring(0, 19)).fault(1), NONE);
    }

    private static void set() {
        MayNotPause x = new MayNotPause();
        int[] least = {0, 1, 0, 0, 0, 0}, most = {99, 99, 9, 9, 1, 4095}, first = {0, 99, 0, 9, 0, 0};
        for (int what = 0; what < 6; what++) {
            due("6 least", x.set(what, least[what]), first[what]);
            due("6 most", x.set(what, most[what]), least[what]);
            due("6 below", x.set(what, least[what] - 1), BAD);
            due("6 above", x.set(what, most[what] + 1), BAD);
            due("6 far below", x.set(what, LEAST), BAD);
            due("6 it stays", x.set(what, most[what]), most[what]);
        }
        due("6 no such", x.set(-1, 0), BAD);
        due("6 no such", x.set(6, 0), BAD);
    }

    private static void verse() {
        MayNotPause x = Due.with("c345;p119;c345;p119;l210;r029;l218;r029;r022", "");
        int[][] want = {
            {3, 4, 5, 1, 3, 5}, {1, 1, 9, 0, 1, 9}, {3, 4, 5, 1, 0, 0}, {1, 1, 9, 0, 1, 8}, {2, 1, 0, 2, 2, 0},
            {0, 2, 9, 3, 0, 9}, {2, 1, 8, 2, 2, 7}, {0, 2, 9, 3, 0, 8}, {0, 2, 2, 3, 0, 0}};
        for (int v = 0; v < want.length; v++) {
            for (int what = 0; what < 6; what++) {
                due("7 verse " + v + " " + what, x.verse(v, what), want[v][what]);
            }
        }
        due("7 below", x.verse(-1, 0), BAD);
        due("7 above", x.verse(9, 0), BAD);
        due("7 no such", x.verse(0, -1), BAD);
        due("7 no such", x.verse(0, 6), BAD);
        x.type(0, ';');
        due("7 with a fault", x.verse(0, 0), BAD);
    }

    private static void when() {
        // He makes 2 breaths, says 3, makes on while it is understood and written.
        MayNotPause x = Due.with("p231;l941;r320;c111", "");
        row("8 when 0", Due.whens(x, 0), 2, 5, 6, 9, 2);
        row("8 when 1", Due.whens(x, 1), 14, 18, 19, 23, 5);
        row("8 when 2: made in part while the list was said", Due.whens(x, 2), 23, 25, 25, 29, 0);
        row("8 when 3", Due.whens(x, 3), 29, 30, 31, 32, 0);
        x.set(LAW, 1);
        row("8 by LAW 1 it does not begin", Due.whens(x, 0), NONE, NONE, NONE, NONE, NONE);
        row("8 nor what is behind", Due.whens(x, 3), NONE, NONE, NONE, NONE, NONE);
        x.set(LEAD, 2);
        row("8 LEAD", Due.whens(x, 0), 0, 3, 4, 7, 0);
        row("8 he would pause", Due.whens(x, 1), NONE, NONE, NONE, NONE, NONE);
        due("8 below", x.when(-1, 0), BAD);
        due("8 above", x.when(4, 0), BAD);
        due("8 no such", x.when(0, -1), BAD);
        due("8 no such", x.when(0, 5), BAD);
    }

    private static void pens() {
        MayNotPause x = Due.with("p041;p042;p013", "");
        x.set(WEAR, 8);
        x.set(CHANGE, 3);
        row("8 the pen lasts just so long", Due.whens(x, 1), 9, 13, 14, 18, 0);
        row("8 a new pen takes CHANGE", Due.whens(x, 2), 18, 19, 20, 24, 0);
        row("9 one pen anew", Due.poems(x), 3, 24, 0, 1);
        x.set(PENS, 0);
        row("8 no pen: understood, not written", Due.whens(x, 2), 18, 19, 20, NONE, 0);
        row("9 no pen", Due.poems(x), 2, 18, 0, 0);
        due("10 not written", x.judged(), 2);
        due("12 in hand", x.doing(19, 2), 2);
        due("12 till it is understood", x.doing(20, 2), NONE);
        x.set(WEAR, 1);
        row("9 with a new one any verse can be written", Due.poems(x), 1, 9, 0, 0);
        x.set(PENS, 1);
        row("9 one spare", Due.poems(x), 2, 21, 0, 1);
        MayNotPause y = Due.with("r011;p010", "");
        y.set(WEAR, 3);
        row("9 a riddle wears a pen for 2 breaths more", Due.poems(y), 2, 7, 0, 1);
        y.set(WEAR, 4);
        row("9 and no more", Due.poems(y), 2, 7, 0, 0);
        MayNotPause z = Due.with("p020;p020;p020", "");
        z.set(WEAR, 4);
        row("9 a new pen lasts for as long", Due.poems(z), 3, 12, 0, 1);
        z.set(WEAR, 3);
        row("9 two pens", Due.poems(z), 3, 12, 0, 2);
    }

    private static void poem() {
        MayNotPause x = Due.with("p231;l941;r320;c111", "");
        row("9 poem", Due.poems(x), 4, 32, 7, 0);
        x.set(LAW, 1);
        row("9 LAW 1", Due.poems(x), 0, 0, 0, 0);
        x.set(LEAD, 2);
        row("9 LAW 1 later", Due.poems(x), 1, 7, 0, 0);
        due("9 no such", x.poem(-1), BAD);
        due("9 no such", x.poem(4), BAD);
    }

    private static void judged() {
        due("10 no verses", new MayNotPause().judged(), NONE);
        MayNotPause x = Due.with("p231;l941;r320;c111", "");
        due("10 the first", x.judged(), 0);
        x.set(LEAD, 2);
        due("10 the next", x.judged(), 1);
        x.set(LEAD, 7);
        due("10 none", x.judged(), NONE);
        x.set(LEAD, 6);
        due("10 a pause of 1", x.judged(), 1);
    }

    private static void rest() {
        MayNotPause x = Due.with("p231;l941;r320;c111", "");
        due("11 rest 0", x.rest(0), 0);
        due("11 rest 1", x.rest(1), 0);
        due("11 rest 2: 4 of the list and 5 breaths, less 3", x.rest(2), 6);
        due("11 rest 3", x.rest(3), 9);
        x.set(LEAD, 99);
        due("11 LEAD counts", x.rest(0), 97);
        x.set(LEAD, 2);
        x.set(LAW, 1);
        due("11 begins", x.rest(0), 0);
        due("11 it does not begin", x.rest(1), NOT);
        due("11 below", x.rest(-1), BAD);
        due("11 above", x.rest(4), BAD);
    }

    private static void doing() {
        MayNotPause x = Due.with("p231;l941;r320;c111", "");
        int[][] want = {
            {0, NONE, 0, NONE}, {1, NONE, 0, NONE}, {2, 0, NONE, NONE}, {4, 0, NONE, NONE}, {5, NONE, 1, 0},
            {8, NONE, 1, 0}, {9, NONE, 1, NONE}, {13, NONE, 1, NONE}, {14, 1, 2, NONE}, {16, 1, 2, NONE},
            {17, 1, 3, NONE}, {18, NONE, NONE, 1}, {22, NONE, NONE, 1}, {23, 2, NONE, NONE}, {25, NONE, NONE, 2},
            {31, NONE, NONE, 3}, {32, NONE, NONE, NONE}, {299, NONE, NONE, NONE}};
        for (int[] each : want) {
            for (int what = 0; what < 3; what++) {
                due("12 doing " + each[0] + " " + what, x.doing(each[0], what), each[what + 1]);
            }
        }
        x.set(LAW, 1);
        due("12 nothing is said", x.doing(2, 0), NONE);
        due("12 he makes on, whatever ends", x.doing(2, 1), 1);
        due("12 to the last", x.doing(14, 1), 3);
        due("12 all is made", x.doing(15, 1), NONE);
        due("12 below", x.doing(-1, 0), BAD);
        due("12 above", x.doing(300, 0), BAD);
        due("12 no such", x.doing(0, -1), BAD);
        due("12 no such", x.doing(0, 3), BAD);
    }

    private static void put() {
        MayNotPause none = new MayNotPause();
        row("13 no verses", Due.puts(none), 0, 0, NONE, NONE, NONE, NONE);
        due("13 no such", none.put(-1), BAD);
        due("13 no such", none.put(6), BAD);
        // The second verse is late by 7 breaths.
        MayNotPause one = Due.with("p010;p810", "");
        row("13 no hard ones", Due.puts(one), NONE, NONE, NONE, NONE, NONE, NONE);
        Due.typeAll(one, 1, "p014;p016;p017;p019");
        row("13 the least LONG of those that do", Due.puts(one), 1, 12, 0, 1, NONE, NONE);
        one.set(LEAD, 7);
        row("13 none is needed", Due.puts(one), 0, 4, NONE, NONE, NONE, NONE);
        MayNotPause two = Due.with("p010;p910;p010", "r014;l012");
        row("13 two of them", Due.puts(two), 2, 18, 0, 0, 0, 1);
        two.set(LAW, 1);
        row("13 by LAW 1 too", Due.puts(two), 2, 18, 0, 0, 0, 1);
        MayNotPause pens = Due.with("p010;p810", "r019");
        row("13 ahead of pens", Due.puts(pens), 1, 17, 0, 0, NONE, NONE);
        pens.set(WEAR, 1);
        pens.set(PENS, 1);
        row("13 no pens for it", Due.puts(pens), NONE, NONE, NONE, NONE, NONE, NONE);
        pens.set(PENS, 2);
        row("13 just so many pens", Due.puts(pens), 1, 17, 0, 0, NONE, NONE);
        pens.wipe(0);
        row("13 wiped", Due.puts(pens), 0, 0, NONE, NONE, NONE, NONE);
    }

    private static void putTies() {
        MayNotPause like = Due.with("l010;l810", "p016;r014;p016");
        row("13 of like ones the least place, then the least one", Due.puts(like), 1, 12, 0, 0, NONE, NONE);
        like.wipe(1);
        Due.typeAll(like, 1, "l217;c016");
        row("13 the place comes first", Due.puts(like), 1, 12, 0, 1, NONE, NONE);
        // As long are the second twice at 0, and the first at 0 with the third at 1.
        MayNotPause both = Due.with("l010;l910;l610", "p012;p017;r419");
        row("13 both places come ahead of both HARD ones", Due.puts(both), 2, 23, 0, 1, 0, 1);
        // The twelfth verse is late by 8: a list gains 2 breaths, the riddle 6, and 5 when it comes again.
        MayNotPause full = Due.with("p110;".repeat(11) + "p910", "l010;l010;l010;r013");
        full.set(LEAD, 1);
        row("13 two with twelve verses", Due.puts(full), 2, 33, 0, 0, 0, 3);
        full.wipe(1);
        Due.typeAll(full, 1, "p010;p010;p010;r013");
        row("13 the last one twice", Due.puts(full), 2, 37, 0, 3, 0, 3);
        full.set(LEAD, 3);
        row("13 the last one once", Due.puts(full), 1, 31, 0, 3, NONE, NONE);
    }

    private static void order() {
        row("14 no verses", Due.orders(new MayNotPause()), 0, 0, NONE, NONE, NONE, NONE, NONE, NONE, NONE);
        MayNotPause x = Due.with("p910;p018;p810", "");
        row("14 the one that gains time is first", Due.orders(x), 7, 21, 1, 0, 2, NONE, NONE, NONE, NONE);
        x.set(LAW, 1);
        row("14 LAW aside", Due.orders(x), 7, 21, 1, 0, 2, NONE, NONE, NONE, NONE);
        x.set(LEAD, 99);
        row("14 of like ones the least LONG", Due.orders(x), 0, 12, 0, 2, 1, NONE, NONE, NONE, NONE);
        MayNotPause pens = Due.with("p010;p010", "");
        pens.set(WEAR, 1);
        pens.set(CHANGE, 2);
        pens.set(PENS, 0);
        row("14 with as many PENS as it takes", Due.orders(pens), 0, 6, 0, 1, NONE, NONE, NONE, NONE, NONE);
        MayNotPause eight = Due.with("p010;p010;p010;p010;p010;p010;p010;p990", "");
        row("14 the first seven", Due.orders(eight), 0, 14, 0, 1, 2, 3, 4, 5, 6);
        due("14 no such", x.order(-3), BAD);
        due("14 no such", x.order(7), BAD);
    }

    private static void lead() {
        due("15 no verses", new MayNotPause().lead(), 0);
        MayNotPause x = Due.with("p231;l941;r320;c111", "");
        due("15 lead", x.lead(), 7);
        x.set(LEAD, 50);
        due("15 whatever LEAD is", x.lead(), 7);
        x.set(LAW, 1);
        due("15 whatever LAW is", x.lead(), 7);
        x.set(WEAR, 1);
        x.set(PENS, 2);
        due("15 not all is written", x.lead(), NONE);
        x.set(PENS, 3);
        due("15 all is written", x.lead(), 7);
        // 108 breaths to make, and eleven verses that gain 1 breath each for the next.
        due("15 the most that is ever needed", Due.with("p910;".repeat(12).substring(0, 59), "").lead(), 97);
    }

    private static void odds() {
        row("16 no verses", Due.oddsOf(new MayNotPause()), 1, 1, 0, 1);
        row("16 a KNOT of 5 is surely solved", Due.oddsOf(Due.with("p115", "")), 1, 1, 1, 1);
        row("16 a KNOT of 6", Due.oddsOf(Due.with("p116", "")), 15, 16, 15, 16);
        row("16 a KNOT of 9", Due.oddsOf(Due.with("p119", "")), 3, 4, 3, 4);
        row("16 the KNOT that counts", Due.oddsOf(Due.with("p115;p116", "")), 1, 1, 2, 1);
        row("16 two", Due.oddsOf(Due.with("p117;p111;r118", "")), 91, 128, 315, 128);
        row("16 unlike ones below", Due.oddsOf(Due.with("p119;r116;p119", "")), 585, 1024, 2073, 1024);
        row("16 WHOLE and MEAN have their own below", Due.oddsOf(Due.with("p119;p111", "")), 3, 4, 3, 2);
        MayNotPause x = Due.with("p997", "");
        x.set(LAW, 1);
        row("16 LAW aside", Due.oddsOf(x), 7, 8, 7, 8);
        due("16 no such", x.odds(-1), Long.MIN_VALUE + 2);
        due("16 no such", x.odds(4), Long.MIN_VALUE + 2);
    }

    private static void drawn() {
        due("17 no verses", new MayNotPause().drawn(1), 0);
        MayNotPause sure = Due.with("p115;r115", "");
        MayNotPause nine = Due.with("l111;p119", "");
        MayNotPause six = Due.with("l111;p116", "");
        for (int seed = -40; seed < 40; seed++) {
            int lot = (1103515245 * seed + 12345 >>> 16) % 16;
            due("17 surely " + seed, sure.drawn(seed), 2);
            due("17 nine " + seed, nine.drawn(seed), lot < 4 ? 1 : 2);
            due("17 six " + seed, six.drawn(seed), lot < 1 ? 1 : 2);
        }
        due("17 the least seed: a LOT of 0", nine.drawn(LEAST), 1);
        // A seed goes on from verse to verse, but for those that cannot halt him.
        MayNotPause many = Due.with("p119;p119;l115;p119;r119;r119;r115;l119;p119;r119;c119", "");
        for (int seed = -1000; seed < 1000; seed++) {
            due("17 many " + seed, many.drawn(seed), drawnBy(seed, 4, 3, 0, 2, 4, 3, 0, 3, 1, 1, 4));
        }
    }

    private static int drawnBy(int seed, int... sixteenths) {
        int next = seed;
        for (int v = 0; v < sixteenths.length; v++) {
            if (sixteenths[v] > 0) {
                next = next * 1103515245 + 12345;
                if ((next >> 16 & 0xFFFF) % 16 < sixteenths[v]) {
                    return v;
                }
            }
        }
        return sixteenths.length;
    }

    private static void line() {
        MayNotPause x = Due.with("p110;p115;p117;p119;p115", "");
        due("18 none at first", x.line(5, 0), 4);
        x.set(FILLERS, 0b101101);
        // The verses 0, 2 and 3; the bit 5 is no verse's.
        int[][] byHand = {{0, 2, 0}, {1, 2, 1}, {5, 2, 1}, {6, 0, 1}, {7, 0, 1}, {8, 0, 2}, {9, 0, 2}, {10, 0, 3}};
        for (int[] each : byHand) {
            due("18 line " + each[0] + " 0", x.line(each[0], 0), each[1]);
            due("18 line " + each[0] + " 1", x.line(each[0], 1), each[2]);
        }
        due("18 BEST LINE", x.line(NONE, 0), 6);
        due("18 its errors", x.line(NONE, 1), 1);
        x.set(FILLERS, 0);
        due("18 the tenth is best", x.line(NONE, 0), 10);
        due("18 without errors", x.line(NONE, 1), 0);
        x.set(FILLERS, 0b11111);
        due("18 the least is best", x.line(NONE, 0), 0);
        due("18 without errors", x.line(NONE, 1), 0);
        x.set(FILLERS, 0b00011);
        due("18 of like ones the least", x.line(NONE, 0), 10);
        due("18 errors of both sorts", x.line(NONE, 1), 2);
        x.set(FILLERS, 0b00001);
        due("18 not called wrongly", x.line(NONE, 1), 1);
        due("18 below", x.line(-2, 0), BAD);
        due("18 above", x.line(11, 0), BAD);
        due("18 no such", x.line(0, -1), BAD);
        due("18 no such", x.line(0, 2), BAD);
        due("18 no such", x.line(NONE, 2), BAD);
    }

    private static void seenAndForget() {
        MayNotPause x = new MayNotPause();
        due("20 none", x.forget(), 0);
        due("19 below", x.seen(-1, 0), BAD);
        due("19 above", x.seen(300, 0), BAD);
        due("19 below", x.seen(0, -2), BAD);
        due("19 above", x.seen(0, 12), BAD);
        for (int k = 1; k <= 8; k++) {
            due("19 seen", x.seen(k % 2 * 299, k % 3 == 0 ? NONE : 11), k);
        }
        due("19 full", x.seen(0, 0), FULL);
        due("19 bad ahead of full", x.seen(300, 0), BAD);
        due("19 eight", x.count(4), 8);
        due("20 forget", x.forget(), 8);
        due("20 forgotten", x.count(4), 0);
        due("20 leads", x.leads(), Integer.MAX_VALUE);
        due("19 again", x.seen(0, 0), 1);
    }

    private static void leads() {
        MayNotPause x = Due.with("p311;p511", "");
        due("21 all", x.leads(), Integer.MAX_VALUE);
        x.seen(0, 1);
        due("21 by 0 to 2 he makes the first, by 3 and more he says it", x.leads(), 0);
        x.forget();
        x.seen(0, 0);
        due("21 the first", x.leads(), 0b111);
        x.seen(2, NONE);
        due("21 it is said then", x.leads(), 0b010);
        x.forget();
        x.seen(0, NONE);
        due("21 from 3 on", x.leads(), Integer.MAX_VALUE & ~0b111);
        x.seen(1, 1);
        due("21 from 3 to 7", x.leads(), 0b11111000);
        x.set(LEAD, 99);
        due("21 whatever LEAD is", x.leads(), 0b11111000);
        x.set(LAW, 1);
        x.forget();
        x.seen(2, 1);
        due("21 by LAW 1 he makes on where he would pause", x.leads(), 0b1111110);
        x.set(LAW, 0);
        due("21 by LAW 0 he says it in breath 2 with 1 as LEAD", x.leads(), 0b1111100);
    }

    private static void read() {
        MayNotPause x = new MayNotPause();
        for (int s : NOT_A_SHEET) {
            due("22 read " + s, x.read(s), BAD);
        }
        due("22 lost", x.read(0), NULL);
        due("22 finding", x.count(8), 1);
        x.sheet(0, 1, 5);
        lay(x, 0, 1, 299, NONE, 0, 11, 7);
        due("22 as many as are whole", x.read(0), 2);
        due("22 they are there", x.count(4), 2);
        due("22 behind those that are", x.read(0), 2);
        due("22 more of them", x.count(4), 4);
        x.lay(0, 1, 2, 300);
        due("22 as long as each may be", x.read(0), 1);
        x.lay(0, 1, 1, 12);
        due("22 none", x.read(0), 0);
        x.sheet(1, 0, 60);
        due("22 as long as there is room", x.read(1), 3);
        due("22 full", x.count(4), 8);
        due("22 no more", x.read(1), 0);
        x.forget();
        x.sheet(2, 2, 1);
        due("22 one item is none", x.read(2), 0);
        x.sheet(2, 2, 2);
        due("22 two are one", x.read(2), 1);
        x.forget();
        x.sheet(2, 2, 0);
        due("22 no items", x.read(2), 0);
        x.sheet(3, 0, 2);
        lay(x, 3, 0, 200, 0);
        due("22 a byte of 200 is below 0", x.read(3), 0);
    }

    private static void lay(MayNotPause x, int s, int form, int... items) {
        for (int i = 0; i < items.length; i++) {
            due("25 lay", x.lay(s, form, i, items[i]), 1);
        }
    }

    private static void sheet() {
        MayNotPause x = new MayNotPause();
        for (int s : NOT_A_SHEET) {
            due("23 sheet " + s, x.sheet(s, 0, -1), BAD);
        }
        for (int form : NOT_A_FORM) {
            due("23 form " + form, x.sheet(0, form, -1), BAD);
        }
        due("23 above", x.sheet(0, 0, 61), BAD);
        due("23 no finding", x.count(8), 0);
        due("23 below", x.sheet(0, 0, -1), SIZE);
        due("23 finding", x.count(8), 5);
        due("23 still lost", x.lose(0), NULL);
        due("23 none", x.sheet(0, 0, 0), 0);
        due("23 sixty", x.sheet(3, 2, 60), 60);
        due("23 0 at first", x.get(3, 2, 59), 0);
        x.lay(3, 2, 5, 77);
        x.lay(3, 2, 0, 78);
        due("23 below leaves it", x.sheet(3, 2, LEAST), SIZE);
        due("23 as it was", x.get(3, 2, 5), 77);
        due("23 a new row", x.sheet(3, 2, 10), 10);
        due("23 0 again", x.get(3, 2, 5), 0);
        due("23 0 again", x.get(3, 2, 0), 0);
        due("23 another form", x.sheet(3, 0, 10), 10);
        due("23 of that form", x.get(3, 0, 9), 0);
    }

    private static void lose() {
        MayNotPause x = new MayNotPause();
        for (int s : NOT_A_SHEET) {
            due("24 lose " + s, x.lose(s), BAD);
        }
        due("24 lost", x.lose(0), NULL);
        due("24 finding", x.count(8), 1);
        x.sheet(0, 1, 12);
        due("24 lose", x.lose(0), 12);
        due("24 lost now", x.lose(0), NULL);
        x.sheet(0, 1, 0);
        due("24 of no items", x.lose(0), 0);
    }

    private static void layAndGet() {
        MayNotPause x = new MayNotPause();
        for (int s : NOT_A_SHEET) {
            due("25 lay " + s, x.lay(s, 0, 0, 0), BAD);
            due("26 get " + s, x.get(s, 0, 0), LEAST);
        }
        for (int form : NOT_A_FORM) {
            due("25 form " + form, x.lay(0, form, 0, 0), BAD);
            due("26 form " + form, x.get(0, form, 0), LEAST);
        }
        due("26 BAD is no finding", x.count(8), 0);
        due("25 lost", x.lay(0, 0, 0, 0), NULL);
        due("26 lost", x.get(0, 0, 0), LEAST);
        due("26 finding", x.count(8), 1);
        for (int form = 0; form < 3; form++) {
            x.sheet(form, form, 3);
        }
        due("25 cast ahead of index", x.lay(0, 1, 9, 0), CAST);
        due("25 finding", x.count(8), 3);
        for (int i : new int[] {-1, 3, LEAST, Integer.MAX_VALUE}) {
            due("25 index " + i, x.lay(1, 1, i, 0), INDEX);
            x.get(0, 1, 0);
            due("26 cast", x.count(8), 3);
            due("26 index " + i, x.get(1, 1, i), LEAST);
            due("26 finding", x.count(8), 2);
        }
        int v = 0x12348FF0;
        for (int form = 0; form < 3; form++) {
            due("25 lay", x.lay(form, form, 2, v), 1);
        }
        due("26 a byte", x.get(0, 0, 2), (byte) 0xF0);
        due("26 a short", x.get(1, 1, 2), (short) 0x8FF0);
        due("26 an int", x.get(2, 2, 2), v);
        due("26 others stay", x.get(0, 0, 1), 0);
        due("26 an answer is no finding", x.count(8), 2);
    }

    private static void copy() {
        MayNotPause x = new MayNotPause();
        for (int s : NOT_A_SHEET) {
            due("27 copy " + s, x.copy(s, 0, 0, 0, 0), BAD);
            due("27 copy to " + s, x.copy(0, 0, s, 0, 0), BAD);
        }
        due("27 lost", x.copy(0, 0, 0, 0, 0), NULL);
        x.sheet(0, 1, 6);
        due("27 to a lost one", x.copy(0, 0, 1, 0, 0), NULL);
        due("27 from a lost one", x.copy(1, 0, 0, 0, 0), NULL);
        x.sheet(1, 2, 6);
        due("27 unlike forms, ahead of index", x.copy(0, -1, 1, 0, 0), STORE);
        due("27 finding", x.count(8), 4);
        x.sheet(1, 1, 4);
        lay(x, 0, 1, 1, 2, 3, 4, 5, 6);
        int max = Integer.MAX_VALUE;
        int[][] outside = {{-1, 0, 1}, {0, -1, 1}, {0, 0, -1}, {0, 0, 5}, {5, 0, 2}, {0, 3, 2}, {7, 0, 0}, {0, 5, 0},
            {max, 0, 1}, {1, 0, max}, {0, max, 1}, {max, max, max}, {LEAST, 0, 0}, {0, 0, LEAST}};
        for (int[] o : outside) {
            due("27 index " + o[0] + " " + o[1] + " " + o[2], x.copy(0, o[0], 1, o[1], o[2]), INDEX);
        }
        due("27 it changes nothing", x.get(1, 1, 0), 0);
        due("27 none at the end", x.copy(0, 6, 1, 4, 0), 1);
        due("27 copy", x.copy(0, 2, 1, 1, 3), 1);
        items("27 copied", x, 1, 1, 0, 3, 4, 5);
        due("27 up", x.copy(0, 0, 0, 1, 4), 1);
        items("27 as they were", x, 0, 1, 1, 1, 2, 3, 4, 6);
        due("27 down", x.copy(0, 2, 0, 1, 4), 1);
        items("27 as they were", x, 0, 1, 1, 2, 3, 4, 6, 6);
    }

    private static void items(String call, MayNotPause x, int s, int form, int... want) {
        for (int i = 0; i < want.length; i++) {
            due(call + " " + i, x.get(s, form, i), want[i]);
        }
    }

    private static void write() {
        MayNotPause x = Due.with("p199;p999;p999;p999;p999;p999;p999", "");
        for (int s : NOT_A_SHEET) {
            due("28 write " + s, x.write(s), BAD);
        }
        due("28 lost", x.write(0), NULL);
        due("28 finding", x.count(8), 1);
        x.sheet(0, 2, 9);
        lay(x, 0, 2, 5, 5, 5, 5, 5, 5, 5, 5, 5);
        due("28 as many as VERSES", x.write(0), 7);
        items("28 when they begin", x, 0, 2, 1, 28, 54, 79, 103, 126, 148, 5, 5);
        x.sheet(1, 0, 7);
        due("28 bytes", x.write(1), 7);
        items("28 the lowest bits", x, 1, 0, 1, 28, 54, 79, 103, 126, 148 - 256);
        x.sheet(2, 1, 2);
        due("28 as many as items", x.write(2), 2);
        items("28 shorts", x, 2, 1, 1, 28);
        x.set(LAW, 1);
        due("28 written all the same", x.write(0), 7);
        items("28 NONE", x, 0, 2, NONE, NONE, NONE, NONE, NONE, NONE, NONE, 5, 5);
        x.wipe(0);
        due("28 no verses", x.write(0), 0);
    }

    private static void count() {
        MayNotPause x = Due.with("c345;p219;c345", "p111;r11");
        x.set(LEAD, 42);
        x.set(FILLERS, 0b111110);
        x.seen(3, 3);
        int[] want = {3, 0, 14, 8, 1, 5, 42, 2, 0};
        for (int what = 0; what < want.length; what++) {
            due("29 count " + what, x.count(what), want[what]);
        }
        x.type(1, '1');
        due("29 hard ones", x.count(1), 2);
        x.read(0);
        due("29 finding", x.count(8), 1);
        x.type(0, ';');
        due("29 with a fault", x.count(0), 0);
        due("29 with a fault", x.count(5), 0);
        due("29 with a fault", x.count(7), 0);
        due("29 with its bytes", x.count(2), 15);
        due("29 no such", x.count(-1), BAD);
        due("29 no such", x.count(9), BAD);
    }

    private static void digest() {
        MayNotPause x = Due.with("p231;l941;r320;c111;p006", "r019");
        x.set(LEAD, 5);
        due("30 digest", x.digest(), digestOf(x));
        x.undo(0);
        x.type(0, 'x');
        due("30 with a fault", x.digest(), digestOf(x));
        x.wipe(0);
        Due.typeAll(x, 0, "p231;l941;r329;c119");
        x.set(LAW, 1);
        x.set(FILLERS, 5);
        x.seen(0, 1);
        due("30 LAW 1", x.digest(), digestOf(x));
        digestOfOddsAndLines();
        x.read(3);
        due("30 it changes nothing", x.count(8), 1);
        due("30 findings are no part", x.digest(), digestOf(x));
        due("30 it changes nothing", x.count(8), 1);
    }

    // Errors and draws that differ by seed, LINE and sort, so that each shows in the digest.
    private static void digestOfOddsAndLines() {
        MayNotPause x = Due.with("p119;p119;p114;p114;p115;r119;r119;l116", "");
        for (int fillers = 0; fillers < 256; fillers += 5) {
            x.set(FILLERS, fillers);
            due("30 fillers " + fillers, x.digest(), digestOf(x));
        }
        for (int k = 0; k < 7; k++) {
            x.undo(0);
            due("30 undone " + k, x.digest(), digestOf(x));
        }
    }

    private static long digestOf(MayNotPause x) {
        long[] h = {17};
        java.util.function.LongConsumer add = each -> h[0] = 31 * h[0] + each;
        for (int what = 0; what < 8; what++) {
            add.accept(x.count(what));
        }
        add.accept(x.fault(0));
        add.accept(x.fault(1));
        for (int v = 0; v < x.count(0); v++) {
            for (int what = 0; what < 6; what++) {
                add.accept(x.verse(v, what));
            }
            for (int what = 0; what < 5; what++) {
                add.accept(x.when(v, what));
            }
            add.accept(x.rest(v));
        }
        for (long each : Due.poems(x)) {
            add.accept(each);
        }
        add.accept(x.judged());
        for (int breath = 0; breath < 10; breath++) {
            for (int what = 0; what < 3; what++) {
                add.accept(x.doing(breath, what));
            }
        }
        for (long each : Due.puts(x)) {
            add.accept(each);
        }
        for (int i = -2; i <= 2; i++) {
            add.accept(x.order(i));
        }
        add.accept(x.lead());
        for (long each : Due.oddsOf(x)) {
            add.accept(each);
        }
        add.accept(x.drawn(7));
        add.accept(x.line(NONE, 0));
        add.accept(x.line(NONE, 1));
        add.accept(x.line(5, 0));
        add.accept(x.line(5, 1));
        add.accept(x.leads());
        return h[0];
    }
}
