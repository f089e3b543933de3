/** The sentences that name the edges of texts and of the object itself: 'What it is', 'Terms', promises 1 to 7. */
public final class TextEdgesTest {
    private static final int NONE = -1, BAD = -2, NOT = -3, FULL = -4;
    private static final int MIN = Integer.MIN_VALUE, MAX = Integer.MAX_VALUE;
    private static final int[] NO_TEXT = {-1, 2, MIN, MAX};
    private static final int[] MOST_BYTES = {59, 19}, MOST_VERSES = {12, 4};
    private static final Due DUE = new Due();

    public static void main(String[] args) {
        bytesOfVerses();
        twelveVerses();
        between();
        letters();
        figures();
        calls();
        bytesOfHardOnes();
        fourHardOnes();
        firstByte();
        emptyIsWell();
        notEnded();
        verseTooMany();
        asIfEmpty();
        hardOnesAsIfEmpty();
        newObject();
        type();
        wipe();
        undo();
        fault();
        set();
        setsAtFirst();
        verse();
        DUE.end("TextEdgesTest");
    }

    private static void due(String call, long got, long want) {
        DUE.due(call, got, want);
    }

    private static void bytesOfVerses() {
        DUE.sentence("VERSES are a text of up to 59 bytes (text 0)");
        upTo(0, 59);
    }

    private static void upTo(int text, int most) {
        MayNotPause x = new MayNotPause();
        for (int i = 1; i <= most; i++) {
            due("type " + i, x.type(text, 0), i);
        }
        due("one more", x.type(text, 0), FULL);
        due("bytes", x.count(2 + text), most);
        due("bytes of the other", x.count(3 - text), 0);
    }

    private static void twelveVerses() {
        DUE.sentence("12 at most (0 on)");
        MayNotPause x = Due.with(Due.times(11, "p010") + ";l987");
        due("count 0", x.count(0), 12);
        due("the first is 0", x.verse(0, 3), 0);
        due("the last is 11", x.verse(11, 3), 2);
        due("its SAY", x.verse(11, 1), 8);
        due("there is no 12", x.verse(12, 3), BAD);
        due("no time of a 12", x.when(12, 0), BAD);
        due("no rest of a 12", x.rest(12), BAD);
    }

    private static void between() {
        DUE.sentence("with ; between them");
        String[] texts = {"p010;p010", "p010", ";p010", "p010;", "p010;;p010", "p010p010", "p010:p010", "p010 p010"};
        int[] faults = {NONE, NONE, 0, 5, 5, 4, 4, 4};
        for (int i = 0; i < texts.length; i++) {
            due(texts[i], Due.with(texts[i]).fault(0), faults[i]);
        }
        for (int b = 0; b < 256; b++) {
            due("p010 and " + b, faultOf(0, "p010" + (char) b + "p010"), b == ';' ? NONE : 4);
        }
    }

    private static int faultOf(int text, String bytes) {
        MayNotPause x = new MayNotPause();
        Due.typeAll(x, text, bytes);
        return x.fault(text);
    }

    private static void letters() {
        DUE.sentence("a letter, its KIND (p plain, c chorus, l list, r riddle)");
        for (int b = 0; b < 256; b++) {
            boolean kind = "pclr".indexOf(b) >= 0;
            due("the byte " + b, faultOf(0, (char) b + "010"), kind ? NONE : 0);
            due("behind another " + b, faultOf(0, "r999;" + (char) b + "010"), kind ? NONE : 5);
        }
        MayNotPause x = Due.with("p010;c010;l010;r010");
        for (int v = 0; v < 4; v++) {
            due("KIND of " + v, x.verse(v, 3), v);
        }
    }

    private static void figures() {
        DUE.sentence("three figures (0 to 9 each; SAY 1 to 9)");
        for (int place = 1; place <= 3; place++) {
            int least = place == 2 ? '1' : '0';
            for (int b = 0; b < 256; b++) {
                String text = "c111".substring(0, place) + (char) b + "111".substring(place);
                int want = b >= least && b <= '9' ? NONE : place;
                due("the byte " + b + " at " + place, faultOf(0, text), want);
                due("in another verse " + b, faultOf(0, "l999;" + text), want == NONE ? NONE : 5 + place);
            }
        }
        MayNotPause x = Due.with("p010;p999");
        for (int what = 0; what < 3; what++) {
            due("the least " + what, x.verse(0, what), what == 1 ? 1 : 0);
            due("the most " + what, x.verse(1, what), 9);
        }
    }

    private static void calls() {
        DUE.sentence("An object is used for at most 512 calls after it has been made; what later calls answer is free.");
        MayNotPause x = new MayNotPause();
        for (int call = 1; call <= 500; call++) {
            due("call " + call, call % 2 == 1 ? x.type(0, 'p') : x.wipe(0), 1);
        }
        Due.typeAll(x, 0, "p231;l941");
        due("call 510", x.poem(0), 2);
        due("call 511", x.when(1, 3), 23);
        due("call 512", x.digest(), Due.with("p231;l941").digest());
        for (int call = 513; call < 1100; call++) {
            x.type(call % 2, call % 256);
            x.seen(call % 300, 1);
        }
        DUE.holds("later calls end", true);
    }

    private static void bytesOfHardOnes() {
        DUE.sentence("HARD ones are a text of up to 19 bytes (text 1)");
        upTo(1, 19);
    }

    private static void fourHardOnes() {
        DUE.sentence("4 at most, likewise: they may be put in");
        MayNotPause x = Due.with("", "p010;c119;l999;r010");
        due("count 1", x.count(1), 4);
        due("well", x.fault(1), NONE);
        due("none of VERSES", x.count(0), 0);
        for (int place = 0; place <= 4; place++) {
            for (int b = 0; b < 256; b++) {
                String text = "r919;l119".substring(0, place) + (char) b + "r919;l119".substring(place + 1);
                due("likewise " + b + " at " + place, faultOf(1, text), faultOf(0, text));
                due("likewise behind " + b, faultOf(1, "c090;" + text), faultOf(0, "c090;" + text));
            }
        }
    }

    private static void firstByte() {
        DUE.sentence("The FAULT of a text is the place of the first byte with which it cannot go on");
        due("the first of two", faultOf(0, "px1x"), 1);
        due("what follows does not mend it", faultOf(0, "p0;p010;p010"), 2);
        due("nor one that is not ended", faultOf(0, "xp"), 0);
        due("the last that there may be", faultOf(0, Due.times(12, "p010").substring(0, 58) + "x"), 58);
        due("of HARD ones", faultOf(1, Due.times(4, "p010").substring(0, 18) + "x"), 18);
    }

    private static void emptyIsWell() {
        DUE.sentence("an empty text is well");
        MayNotPause x = new MayNotPause();
        for (int text = 0; text < 2; text++) {
            due("at first " + text, x.fault(text), NONE);
            x.type(text, 'x');
            x.wipe(text);
            due("wiped " + text, x.fault(text), NONE);
            Due.typeAll(x, text, "p010");
            x.undo(text);
            due("undone " + text, x.fault(text), NONE);
        }
    }

    private static void notEnded() {
        DUE.sentence("of one that is not ended, its end");
        for (int text = 0; text < 2; text++) {
            MayNotPause x = new MayNotPause();
            String all = Due.times(MOST_VERSES[text], "r199");
            for (int n = 1; n <= all.length(); n++) {
                x.type(text, all.charAt(n - 1));
                due("text " + text + " of " + n, x.fault(text), n % 5 == 4 ? NONE : n);
                due("verses in " + n, x.count(text), n % 5 == 4 ? (n + 1) / 5 : 0);
            }
        }
    }

    // There is no room for its first byte, nor for the ; ahead of it.
    private static void verseTooMany() {
        DUE.sentence("or of the first byte of a verse too many");
        for (int text = 0; text < 2; text++) {
            MayNotPause x = new MayNotPause();
            Due.typeAll(x, text, Due.times(MOST_VERSES[text], "p010"));
            due("the ; of one too many", x.type(text, ';'), FULL);
            due("its letter", x.type(text, 'p'), FULL);
            due("well", x.fault(text), NONE);
            due("verses", x.count(text), MOST_VERSES[text]);
            due("bytes", x.count(2 + text), MOST_BYTES[text]);
        }
    }

    private static void asIfEmpty() {
        DUE.sentence("With a FAULT a text is as if it was empty.");
        for (String end : new String[] {";", "x", ";p", ";p0", ";p01", ";p000"}) {
            MayNotPause x = Due.with("p929;c919;r119" + end);
            x.set(5, 7);
            DUE.row(end + " count", Due.counts(x), 0, 0, 14 + end.length(), 0, 0, 0, 0, 0, 0);
            DUE.row(end + " poem", Due.poems(x), 0, 0, 0, 0);
            DUE.row(end + " order", Due.orders(x), 0, 0, NONE, NONE, NONE, NONE, NONE, NONE, NONE);
            DUE.row(end + " put", Due.puts(x), 0, 0, NONE, NONE, NONE, NONE);
            DUE.row(end + " odds", Due.oddsOf(x), 1, 1, 0, 1);
            DUE.row(end + " doing", Due.doings(x, 1, 0, 9), NONE, NONE, NONE, NONE, NONE, NONE, NONE, NONE, NONE);
            due(end + " verse", x.verse(0, 0), BAD);
            due(end + " when", x.when(0, 0), BAD);
            due(end + " rest", x.rest(0), BAD);
            due(end + " undo", x.undo(0), NOT);
            due(end + " judged", x.judged(), NONE);
            due(end + " lead", x.lead(), 0);
            due(end + " drawn", x.drawn(0), 0);
            due(end + " line", x.line(0, 0) + x.line(10, 1), 0);
        }
    }

    private static void hardOnesAsIfEmpty() {
        DUE.sentence("With a FAULT a text is as if it was empty.");
        MayNotPause x = Due.with("p210", "l010");
        due("one is put", x.put(0), 1);
        x.type(1, ';');
        due("none is there", x.put(0), NONE);
        due("count 1", x.count(1), 0);
        due("the other text stays", x.count(0), 1);
        due("undo", x.undo(1), NOT);
        Due.typeAll(x, 1, "l010");
        due("well again", x.put(0), 1);
        due("count 1 again", x.count(1), 2);
    }

    private static void newObject() {
        DUE.sentence("No VERSES; all SHEETS are LOST.");
        MayNotPause x = new MayNotPause();
        DUE.row("count", Due.counts(x), 0, 0, 0, 0, 0, 0, 0, 0, 0);
        due("no verse 0", x.verse(0, 0), BAD);
        for (int s = 0; s < 4; s++) {
            due("sheet " + s, x.write(s), -11);
        }
        x.type(0, 'p');
        due("no other object's", new MayNotPause().count(2), 0);
    }

    private static void type() {
        DUE.sentence("A byte (0 to 255) comes behind a text: how many. BAD; FULL.");
        MayNotPause x = new MayNotPause();
        for (int text : NO_TEXT) {
            due("no text " + text, x.type(text, 'p'), BAD);
        }
        for (int b : new int[] {-1, 256, MIN, MAX}) {
            due("no byte " + b, x.type(0, b), BAD);
            due("nor of HARD ones " + b, x.type(1, b), BAD);
        }
        due("the least", x.type(0, 0), 1);
        due("the most", x.type(0, 255), 2);
        due("the other text counts apart", x.type(1, 255), 1);
        // A byte of 368 is no p, though its lowest bits are.
        due("no lowest bits", x.type(1, 256 + 'p'), BAD);
        due("bytes", x.count(2) + 10 * x.count(3), 12);
    }

    private static void wipe() {
        DUE.sentence("A text is empty: how many bytes it had. BAD.");
        for (int text = 0; text < 2; text++) {
            MayNotPause x = Due.with(Due.times(12, "p010"), Due.times(4, "r010"));
            due("full", x.wipe(text), MOST_BYTES[text]);
            due("empty", x.wipe(text), 0);
            due("the other stays", x.count(3 - text), MOST_BYTES[1 - text]);
            due("there is room", x.type(text, 'p'), 1);
            due("with a fault", x.wipe(text), 1);
        }
        for (int text : NO_TEXT) {
            due("no text " + text, new MayNotPause().wipe(text), BAD);
        }
        MayNotPause told = Due.with("p310;p910", "");
        due("order", told.order(-2), 3 + 8);
        told.wipe(0);
        DUE.row("the poem is empty", Due.poems(told), 0, 0, 0, 0);
        due("MAKE of none", told.count(5), 0);
        due("order of none", told.order(-2), 0);
        due("put into none", told.put(0), 0);
    }

    private static void undo() {
        DUE.sentence("The last verse of a text is undone, with the ; ahead of it: how many are left. BAD; NOT: there are none.");
        for (int text = 0; text < 2; text++) {
            MayNotPause x = Due.with(Due.times(12, "p010"), Due.times(4, "r010"));
            for (int left = MOST_VERSES[text] - 1; left >= 0; left--) {
                due("undo", x.undo(text), left);
                due("bytes", x.count(2 + text), left == 0 ? 0 : 5 * left - 1);
                due("well", x.fault(text), NONE);
                due("verses", x.count(text), left);
            }
            due("the other stays", x.count(1 - text), MOST_VERSES[1 - text]);
            due("none", x.undo(text), NOT);
            x.type(text, 'p');
            due("none is whole", x.undo(text), NOT);
            due("it stays", x.count(2 + text), 1);
        }
        for (int text : NO_TEXT) {
            due("no text " + text, Due.with("p010").undo(text), BAD);
        }
        MayNotPause told = Due.with("p310;p910", "l010");
        due("order of two", told.order(-1), 3 + 2 + 8 + 2);
        due("put into two", told.put(0), NONE);
        told.undo(0);
        DUE.row("the poem of one", Due.poems(told), 1, 5, 3, 0);
        due("MAKE of one", told.count(5), 3);
        due("order of one", told.order(-1), 5);
        due("put into one", told.put(0), 2);
        told.undo(1);
        due("put no more", told.put(0), NONE);
    }

    private static void fault() {
        DUE.sentence("The FAULT of a text; NONE. BAD.");
        MayNotPause x = Due.with("p", "");
        due("a fault", x.fault(0), 1);
        due("none", x.fault(1), NONE);
        for (int text : NO_TEXT) {
            due("no text " + text, x.fault(text), BAD);
        }
    }

    private static void set() {
        DUE.sentence("LEAD (what = 0), WEAR (1), CHANGE (2), PENS (3), LAW (4), FILLERS (5; 0 to 4095): what it was. BAD.");
        int[] least = {0, 1, 0, 0, 0, 0}, most = {99, 99, 9, 9, 1, 4095};
        for (int what = 0; what < 6; what++) {
            MayNotPause x = new MayNotPause();
            x.set(what, least[what]);
            for (int v : new int[] {least[what] - 1, most[what] + 1, MIN, MAX}) {
                due("set " + what + " to " + v, x.set(what, v), BAD);
            }
            due("the least was", x.set(what, most[what]), least[what]);
            due("too much", x.set(what, most[what] + 1), BAD);
            due("the most was", x.set(what, least[what]), most[what]);
            due("it is as it was set", x.set(what, least[what]), least[what]);
        }
        for (int what : new int[] {-1, 6, MIN, MAX}) {
            due("no such " + what, new MayNotPause().set(what, 1), BAD);
        }
    }

    private static void setsAtFirst() {
        String[] words = {"LEAD (0 to 99; 0 at first)", "WEAR (1 to 99; 99 at first)", "CHANGE (0 to 9; 0 at first)",
            "PENS (0 to 9; 9 at first)", "LAW (0, 1; 0 at first)", "FILLERS (bits; none at first)"};
        int[] first = {0, 99, 0, 9, 0, 0};
        for (int what = 0; what < 6; what++) {
            DUE.sentence(words[what]);
            MayNotPause x = new MayNotPause();
            due("it was", x.set(what, 1), first[what]);
            due("and is", x.set(what, 1), 1);
            for (int other = 0; other < 6; other++) {
                due("the others stay", x.set(other, 1), other == what ? 1 : first[other]);
            }
        }
    }

    private static void verse() {
        DUE.sentence("MAKE (what = 0), SAY (1), KNOT (2) as told, KIND (3: 0 p, 1 c, 2 l, 3 r), MAKE, KNOT that count (4, 5) "
            + "of one of VERSES. BAD.");
        MayNotPause x = Due.with("c123;c456", "r999;r999;r999");
        for (int[] each : new int[][] {{0, 0, 1}, {0, 5, 3}, {1, 0, 4}, {1, 2, 6}, {1, 5, 0}}) {
            due("verse " + each[0] + " " + each[1], x.verse(each[0], each[1]), each[2]);
        }
        for (int v : new int[] {-1, 2, 12, MIN, MAX}) {
            due("no verse " + v, x.verse(v, 0), BAD);
        }
        for (int what : new int[] {-1, 6, MIN, MAX}) {
            due("no such " + what, x.verse(0, what), BAD);
        }
    }
}
