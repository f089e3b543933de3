/** The sentences that name the edges of what is SEEN, of SHEETS and counts: 'Terms', part 4, promises 19 to 30. */
public final class SheetEdgesTest {
    private static final int NONE = -1, BAD = -2, FULL = -4;
    private static final int NULL = -11, INDEX = -12, CAST = -13, STORE = -14, SIZE = -15;
    private static final int MIN = Integer.MIN_VALUE, MAX = Integer.MAX_VALUE;
    private static final int ALL_LEADS = MAX;
    private static final int LEAD = 0, WEAR = 1, PENS = 3, LAW = 4, FILLERS = 5;
    private static final int[] NO_SHEET = {-1, 4, MIN, MAX}, NO_FORM = {-1, 3, MIN, MAX};
    private static final Due DUE = new Due();

    public static void main(String[] args) {
        eightSeen();
        seenIn();
        seenWhich();
        leadsAsBits();
        leadsTakeWhatIsSet();
        seen();
        forget();
        leads();
        read();
        readWhole();
        readAsLong();
        lostAtFirst();
        forms();
        upToSixty();
        zeroAtFirst();
        findings();
        sheet();
        lose();
        lay();
        lowestBits();
        get();
        copy();
        copyAsTheyWere();
        copyIndex();
        write();
        writeLowestBits();
        count();
        latestFinding();
        digest();
        digestOfNone();
        digestWraps();
        DUE.end("SheetEdgesTest");
    }

    private static void due(String call, long got, long want) {
        DUE.due(call, got, want);
    }

    private static void eightSeen() {
        DUE.sentence("SEEN, 8 at most");
        MayNotPause x = Due.with("p910");
        for (int k = 1; k <= 8; k++) {
            due("seen " + k, x.seen(0, 0), k);
        }
        due("one more", x.seen(0, NONE), FULL);
        due("eight", x.count(4), 8);
        due("it did not come", x.leads(), 0x1FF);
    }

    private static void seenIn() {
        DUE.sentence("in a breath (0 to 299) he made a verse");
        MayNotPause x = new MayNotPause();
        due("the first", x.seen(0, 0), 1);
        due("the last", x.seen(299, 0), 2);
        for (int breath : new int[] {-1, 300, MIN, MAX}) {
            due("no breath " + breath, x.seen(breath, 0), BAD);
        }
        due("two", x.count(4), 2);
        MayNotPause y = Due.with("p910");
        y.seen(299, NONE);
        due("nothing is made in breath 299", y.leads(), ALL_LEADS);
        y.seen(299, 0);
        due("nor a verse", y.leads(), 0);
    }

    private static void seenWhich() {
        DUE.sentence("(0 to 11), or none (NONE)");
        MayNotPause x = new MayNotPause();
        due("none", x.seen(0, NONE), 1);
        due("the first", x.seen(0, 0), 2);
        due("the last", x.seen(0, 11), 3);
        for (int verse : new int[] {-2, 12, MIN, MAX}) {
            due("no verse " + verse, x.seen(0, verse), BAD);
        }
        MayNotPause y = Due.with(Due.times(11, "l010") + ";p910");
        y.seen(0, 11);
        due("the twelfth is made", y.leads(), 0x1FF);
    }

    // While the list is said he makes the verse to which LEAD has brought him.
    private static void leadsAsBits() {
        DUE.sentence("LEADS: numbers 0 to 30 as LEAD by which all that was SEEN comes out so, as bits.");
        String verses = "l910;p910;p910;p310;p910";
        int[] bits = {0x1FF, 0x1FF << 9, 0x1FF << 18, 7 << 27, 1 << 30};
        for (int v = 0; v < 5; v++) {
            MayNotPause x = Due.with(verses);
            x.seen(0, v);
            due("verse " + v, x.leads(), bits[v]);
        }
        due("nothing SEEN", Due.with(verses).leads(), ALL_LEADS);
        MayNotPause both = Due.with(verses);
        both.seen(0, 3);
        both.seen(3, 4);
        // In breath 2 he says a verse, so but LEAD and 2 breaths are over.
        due("both of two", both.leads(), 3 << 28);
        both.seen(0, 2);
        due("what cannot be", both.leads(), 0);
    }

    private static void leadsTakeWhatIsSet() {
        DUE.sentence("LEADS: numbers 0 to 30 as LEAD");
        MayNotPause x = Due.with("p010;p210");
        x.seen(2, 1);
        due("a pause in breath 2", x.leads(), 1);
        x.seen(3, NONE);
        due("said in breath 3", x.leads(), 1);
        x.set(LEAD, 99);
        due("whatever LEAD is", x.leads(), 1);
        due("LEAD stays", x.count(6), 99);
        x.forget();
        x.seen(2, NONE);
        due("from 1 on", x.leads(), ALL_LEADS - 1);
        x.set(LAW, 1);
        due("LAW 1", x.leads(), ALL_LEADS - 1);
        MayNotPause pens = Due.with("p010;p010;l020;p910");
        pens.set(WEAR, 1);
        pens.seen(4, 3);
        due("he says a list, and makes by a LEAD up to 6", pens.leads(), 0x7F);
        pens.set(PENS, 0);
        due("no more is said, he makes on", pens.leads(), 0x7F);
        pens.forget();
        pens.seen(8, 3);
        due("up to 2, as he says but two breaths", pens.leads(), 0x7);
    }

    private static void seen() {
        DUE.sentence("SEEN more: how many. BAD; FULL.");
        MayNotPause x = new MayNotPause();
        due("bad at first", x.seen(-1, -2), BAD);
        for (int k = 1; k <= 8; k++) {
            due("seen " + k, x.seen(300 - k, k), k);
        }
        due("full", x.seen(299, 11), FULL);
        due("bad", x.seen(300, 11), BAD);
    }

    private static void forget() {
        DUE.sentence("All SEEN are forgotten: how many.");
        MayNotPause x = Due.with("p910");
        due("none", x.forget(), 0);
        x.seen(0, 5);
        due("it cannot be", x.leads(), 0);
        due("one", x.forget(), 1);
        due("none again", x.forget(), 0);
        due("as if nothing was SEEN", x.leads(), ALL_LEADS);
        for (int k = 0; k < 9; k++) {
            x.seen(0, 0);
        }
        due("eight", x.forget(), 8);
        due("there is room", x.seen(0, 0), 1);
    }

    private static void leads() {
        DUE.sentence("LEADS, as bits.");
        due("no verses, nothing SEEN", new MayNotPause().leads(), ALL_LEADS);
        MayNotPause x = new MayNotPause();
        x.seen(0, NONE);
        due("no verses, none made", x.leads(), ALL_LEADS);
        x.seen(0, 0);
        due("no verses, one made", x.leads(), 0);
    }

    private static MayNotPause sheeted(int form, int... items) {
        MayNotPause x = Due.with("p910");
        x.sheet(0, form, items.length);
        for (int i = 0; i < items.length; i++) {
            x.lay(0, form, i, items[i]);
        }
        return x;
    }

    private static void read() {
        DUE.sentence("SEEN from a SHEET: its items, two for each (breath, verse)");
        MayNotPause x = sheeted(2, 0, 0, 8, NONE);
        due("two", x.read(0), 2);
        due("breath 0 and verse 0, breath 8 and none", x.leads(), 0x1FE);
        due("behind what was SEEN", x.read(0), 2);
        due("four", x.count(4), 4);
        for (int s : NO_SHEET) {
            due("no sheet " + s, x.read(s), BAD);
        }
        due("lost", x.read(1), NULL);
        due("they stay", x.count(4), 4);
    }

    private static void readWhole() {
        DUE.sentence("as many as are whole");
        due("no items", sheeted(2).read(0), 0);
        due("one", sheeted(2, 0).read(0), 0);
        due("two", sheeted(2, 0, 0).read(0), 1);
        due("three", sheeted(2, 0, 0, 0).read(0), 1);
        due("sixteen", sheeted(2, new int[16]).read(0), 8);
        due("fifteen", sheeted(2, new int[15]).read(0), 7);
    }

    private static void readAsLong() {
        DUE.sentence("as long as each may be: how many. BAD; NULL.");
        due("the most", sheeted(1, 299, 11, 0, NONE).read(0), 2);
        due("breath 300", sheeted(1, 299, 11, 300, 0, 0, 0).read(0), 1);
        due("breath -1", sheeted(1, 299, 11, -1, 0, 0, 0).read(0), 1);
        due("verse 12", sheeted(1, 299, 11, 0, 12, 0, 0).read(0), 1);
        due("verse -2", sheeted(1, 299, 11, 0, -2, 0, 0).read(0), 1);
        due("the first may not", sheeted(1, 300, 0, 0, 0).read(0), 0);
        MayNotPause x = sheeted(2, new int[60]);
        due("eight of thirty", x.read(0), 8);
        due("none of thirty", x.read(0), 0);
        due("eight", x.count(4), 8);
        due("no finding", x.count(8), 0);
        x.forget();
        x.seen(0, 0);
        due("seven of thirty", x.read(0), 7);
    }

    private static void lostAtFirst() {
        DUE.sentence("SHEETS 0 .. 3 are LOST (at first) or a row of a FORM");
        for (int s = 0; s < 4; s++) {
            MayNotPause x = new MayNotPause();
            due("lost " + s, x.lose(s), NULL);
            due("a row " + s, x.sheet(s, 2, 1), 1);
            for (int other = 0; other < 4; other++) {
                due("lay " + other, x.lay(other, 2, 0, 5), other == s ? 1 : NULL);
            }
        }
    }

    private static void forms() {
        DUE.sentence("0 bytes, 1 shorts, 2 ints");
        int[][] each = {{0, 127, 127}, {0, 128, -128}, {0, 255, -1}, {0, 256, 0}, {0, -129, 127}, {0, -128, -128},
            {1, 32767, 32767}, {1, 32768, -32768}, {1, 65535, -1}, {1, 65536, 0}, {1, -32769, 32767}, {1, 128, 128},
            {2, MAX, MAX}, {2, MIN, MIN}, {2, 65536, 65536}};
        for (int[] one : each) {
            MayNotPause x = sheeted(one[0], one[1]);
            due(one[1] + " in form " + one[0], x.get(0, one[0], 0), one[2]);
        }
    }

    private static void upToSixty() {
        DUE.sentence("of 0 to 60 items");
        MayNotPause x = new MayNotPause();
        due("none", x.sheet(0, 0, 0), 0);
        due("no item 0", x.lay(0, 0, 0, 1), INDEX);
        due("sixty", x.sheet(0, 0, 60), 60);
        due("item 59", x.lay(0, 0, 59, 1), 1);
        due("no item 60", x.lay(0, 0, 60, 1), INDEX);
        due("sixty-one", x.sheet(0, 0, 61), BAD);
        due("one too few", x.sheet(0, 0, -1), SIZE);
        due("sixty still", x.lose(0), 60);
    }

    private static void zeroAtFirst() {
        DUE.sentence("of 0 to 60 items (0 at first)");
        MayNotPause x = new MayNotPause();
        for (int form = 0; form < 3; form++) {
            x.sheet(0, form, 60);
            for (int i = 0; i < 60; i++) {
                due("item " + i + " of form " + form, x.get(0, form, i), 0);
            }
            x.lay(0, form, 0, 7);
            x.lay(0, form, 59, 7);
        }
        x.sheet(0, 2, 60);
        due("the first is 0 again", x.get(0, 2, 0), 0);
        due("the last is 0 again", x.get(0, 2, 59), 0);
        x.lay(0, 2, 3, 7);
        x.lose(0);
        x.sheet(0, 2, 4);
        due("0 after it was LOST", x.get(0, 2, 3), 0);
    }

    private static void findings() {
        DUE.sentence("FINDINGS (answers -10 less the number; they change nothing but count() 8): 1 NULL: the SHEET is LOST; "
            + "2 INDEX: there is no such item; 3 CAST: it has another FORM; 4 STORE: unlike FORMS; 5 SIZE: below 0.");
        MayNotPause x = new MayNotPause();
        x.sheet(0, 0, 1);
        x.sheet(1, 1, 1);
        due("NULL", x.lose(2), -11);
        due("count 8", x.count(8), 1);
        due("INDEX", x.lay(0, 0, 1, 0), -12);
        due("count 8", x.count(8), 2);
        due("CAST", x.lay(0, 1, 0, 0), -13);
        due("count 8", x.count(8), 3);
        due("STORE", x.copy(0, 0, 1, 0, 1), -14);
        due("count 8", x.count(8), 4);
        due("SIZE", x.sheet(2, 0, -1), -15);
        due("count 8", x.count(8), 5);
    }

    private static void sheet() {
        DUE.sentence("A SHEET is a new row of a FORM with n items: n. BAD: SHEET, FORM, above 60; SIZE.");
        MayNotPause x = new MayNotPause();
        for (int s : NO_SHEET) {
            due("no sheet " + s, x.sheet(s, 0, 1), BAD);
            due("no sheet, SIZE " + s, x.sheet(s, 0, -1), BAD);
        }
        for (int form : NO_FORM) {
            due("no form " + form, x.sheet(0, form, 1), BAD);
            due("no form, SIZE " + form, x.sheet(0, form, -1), BAD);
        }
        for (int n : new int[] {61, 1000, MAX}) {
            due("above 60: " + n, x.sheet(0, 0, n), BAD);
        }
        due("no finding", x.count(8), 0);
        for (int n : new int[] {-1, -60, MIN}) {
            due("below 0: " + n, x.sheet(0, 0, n), SIZE);
        }
        due("still LOST", x.lose(0), NULL);
        for (int s = 0; s < 4; s++) {
            due("sheet " + s, x.sheet(s, s % 3, 15 * s), 15 * s);
        }
        for (int s = 0; s < 4; s++) {
            due("of so many " + s, x.lose(s), 15 * s);
        }
    }

    private static void lose() {
        DUE.sentence("It is LOST: how many items it had. BAD; NULL.");
        MayNotPause x = new MayNotPause();
        x.sheet(3, 0, 60);
        x.sheet(0, 0, 0);
        for (int s : NO_SHEET) {
            due("no sheet " + s, x.lose(s), BAD);
        }
        due("sixty", x.lose(3), 60);
        due("none", x.lose(0), 0);
        due("LOST", x.lose(3), NULL);
        due("never there", x.lose(1), NULL);
        due("no item of it", x.get(3, 0, 0), MIN);
        due("NULL", x.count(8), 1);
    }

    private static void lay() {
        DUE.sentence("Item i, treated as of a FORM, becomes v (the lowest bits that it has): 1. BAD; NULL; CAST; INDEX.");
        MayNotPause x = new MayNotPause();
        x.sheet(3, 1, 2);
        for (int s : NO_SHEET) {
            due("no sheet " + s, x.lay(s, 1, 0, 1), BAD);
        }
        for (int form : NO_FORM) {
            due("no form " + form, x.lay(3, form, 0, 1), BAD);
            due("no form, LOST " + form, x.lay(0, form, 0, 1), BAD);
        }
        due("LOST", x.lay(0, 1, 0, 1), NULL);
        due("LOST ahead of all", x.lay(0, 1, -1, 1), NULL);
        due("another FORM", x.lay(3, 0, 0, 1), CAST);
        due("another FORM", x.lay(3, 2, 1, 1), CAST);
        due("another FORM ahead of no item", x.lay(3, 2, 2, 1), CAST);
        for (int i : new int[] {-1, 2, 60, MIN, MAX}) {
            due("no item " + i, x.lay(3, 1, i, 1), INDEX);
        }
        due("they stay", x.get(3, 1, 0) + x.get(3, 1, 1), 0);
        due("the first", x.lay(3, 1, 0, 8), 1);
        due("the last", x.lay(3, 1, 1, 9), 1);
        due("the first is", x.get(3, 1, 0), 8);
        due("the last is", x.get(3, 1, 1), 9);
    }

    private static void lowestBits() {
        DUE.sentence("(the lowest bits that it has)");
        int v = 0x7ABC8081;
        due("a byte", sheeted(0, v).get(0, 0, 0), 0x81 - 256);
        due("a short", sheeted(1, v).get(0, 1, 0), 0x8081 - 65536);
        due("an int", sheeted(2, v).get(0, 2, 0), v);
    }

    private static void get() {
        DUE.sentence("Item i of it. BAD: the least int; so are NULL, CAST, INDEX (count() 8 tells).");
        MayNotPause x = sheeted(1, 300, -1);
        for (int s : NO_SHEET) {
            due("no sheet " + s, x.get(s, 1, 0), MIN);
        }
        for (int form : NO_FORM) {
            due("no form " + form, x.get(0, form, 0), MIN);
            due("no form, LOST " + form, x.get(1, form, 0), MIN);
        }
        due("BAD is no finding", x.count(8), 0);
        due("LOST", x.get(1, 0, -1), MIN);
        due("NULL", x.count(8), 1);
        due("another FORM and no item", x.get(0, 2, 2), MIN);
        due("CAST", x.count(8), 3);
        for (int i : new int[] {-1, 2, 60, MIN, MAX}) {
            x.get(1, 0, 0);
            due("no item " + i, x.get(0, 1, i), MIN);
            due("INDEX", x.count(8), 2);
        }
        due("the first", x.get(0, 1, 0), 300);
        due("the last", x.get(0, 1, 1), -1);
        due("the least int itself is no finding", sheeted(2, MIN).count(8), 0);
    }

    private static void copy() {
        DUE.sentence("BAD: the SHEETS; NULL: s, t; STORE; INDEX: below 0, not so many.");
        MayNotPause x = new MayNotPause();
        for (int s : NO_SHEET) {
            due("no sheet " + s, x.copy(s, -1, 0, -1, -1), BAD);
            due("to no sheet " + s, x.copy(0, -1, s, -1, -1), BAD);
        }
        due("no finding", x.count(8), 0);
        x.sheet(0, 0, 2);
        x.sheet(1, 1, 2);
        due("s LOST", x.copy(2, -1, 0, -1, -1), NULL);
        due("t LOST", x.copy(0, -1, 2, -1, -1), NULL);
        due("both LOST", x.copy(2, -1, 3, -1, -1), NULL);
        due("unlike FORMS", x.copy(0, -1, 1, -1, -1), STORE);
        due("unlike FORMS of none", x.copy(0, 0, 1, 0, 0), STORE);
        due("INDEX", x.copy(0, -1, 0, 0, 0), INDEX);
    }

    private static void items(String call, MayNotPause x, int s, int form, int... want) {
        for (int i = 0; i < want.length; i++) {
            due(call + " item " + i, x.get(s, form, i), want[i]);
        }
    }

    private static void copyAsTheyWere() {
        DUE.sentence("n items of SHEET s, from i on, come to SHEET t (perhaps s, as they were), from j on: 1.");
        MayNotPause x = sheeted(1, 1, 2, 3, 4, 5);
        due("up by one", x.copy(0, 0, 0, 1, 4), 1);
        items("up", x, 0, 1, 1, 1, 2, 3, 4);
        MayNotPause y = sheeted(1, 1, 2, 3, 4, 5);
        due("down by one", y.copy(0, 1, 0, 0, 4), 1);
        items("down", y, 0, 1, 2, 3, 4, 5, 5);
        due("upon itself", y.copy(0, 0, 0, 0, 5), 1);
        items("as it was", y, 0, 1, 2, 3, 4, 5, 5);
        y.sheet(3, 1, 3);
        due("to another", y.copy(0, 1, 3, 1, 2), 1);
        items("those two", y, 3, 1, 0, 3, 4);
        items("they stay", y, 0, 1, 2, 3, 4, 5, 5);
    }

    private static void copyIndex() {
        DUE.sentence("INDEX: below 0, not so many.");
        MayNotPause x = sheeted(2, 1, 2, 3, 4, 5);
        x.sheet(1, 2, 3);
        int[][] outside = {{-1, 0, 1}, {0, -1, 1}, {0, 0, -1}, {-1, 0, 0}, {0, -1, 0}, {5, 0, 1}, {0, 3, 1}, {0, 0, 4}, {3, 0, 3},
            {0, 1, 3}, {6, 0, 0}, {0, 4, 0}, {MAX, 0, 1}, {0, MAX, 1}, {1, 0, MAX}, {MIN, 0, MAX}, {0, MIN, 0}, {0, 0, MIN},
            {MAX, MAX, MAX}, {MAX, 0, MIN}};
        for (int[] o : outside) {
            due("copy " + o[0] + " " + o[1] + " " + o[2], x.copy(0, o[0], 1, o[1], o[2]), INDEX);
        }
        items("nothing came", x, 1, 2, 0, 0, 0);
        due("none from the end to the end", x.copy(0, 5, 1, 3, 0), 1);
        due("just so many there", x.copy(0, 0, 1, 0, 3), 1);
        items("they came", x, 1, 2, 1, 2, 3);
        due("just so many here", x.copy(0, 4, 1, 0, 1), 1);
        items("it came", x, 1, 2, 5, 2, 3);
        x.sheet(2, 2, 0);
        due("none of none", x.copy(2, 0, 2, 0, 0), 1);
        due("one of none", x.copy(2, 0, 0, 0, 1), INDEX);
    }

    private static void write() {
        DUE.sentence("When VERSES 0 on BEGIN (NONE) comes to a SHEET from item 0 on, as many as there are items and VERSES: "
            + "how many. BAD; NULL.");
        MayNotPause x = sheeted(2, 7, 7, 7);
        due("one verse", x.write(0), 1);
        items("two stay", x, 0, 2, 9, 7, 7);
        Due.typeAll(x, 0, ";p010;p010;p010");
        due("three items", x.write(0), 3);
        items("three verses", x, 0, 2, 9, 11, 13);
        x.set(LAW, 1);
        due("they do not BEGIN", x.write(0), 3);
        items("NONE", x, 0, 2, NONE, NONE, NONE);
        x.wipe(0);
        due("no verses", x.write(0), 0);
        items("they stay", x, 0, 2, NONE, NONE, NONE);
        x.sheet(1, 0, 0);
        Due.typeAll(x, 0, "p010");
        due("no items", x.write(1), 0);
        for (int s : NO_SHEET) {
            due("no sheet " + s, x.write(s), BAD);
        }
        due("no finding", x.count(8), 0);
        due("LOST", x.write(3), NULL);
        MayNotPause most = Due.with(Due.times(12, "p010"));
        most.sheet(0, 1, 60);
        due("twelve", most.write(0), 12);
        due("the twelfth", most.get(0, 1, 11), 22);
        due("no thirteenth", most.get(0, 1, 12), 0);
    }

    private static void writeLowestBits() {
        DUE.sentence("comes to a SHEET from item 0 on");
        // The ninth verse begins in breath 144, which is no byte.
        MayNotPause x = Due.with(Due.times(12, "c090"));
        x.sheet(0, 0, 12);
        x.write(0);
        due("126 in a byte", x.get(0, 0, 7), 126);
        due("144 in a byte", x.get(0, 0, 8), 144 - 256);
        x.sheet(1, 1, 12);
        x.write(1);
        due("144 in a short", x.get(1, 1, 8), 144);
    }

    private static void count() {
        DUE.sentence("0 VERSES, 1 HARD ones, 2, 3 bytes of texts, 4 SEEN, 5 MAKE that counts of all VERSES together, 6 LEAD, "
            + "7 FILLERS that there are");
        MayNotPause most = Due.with(Due.times(12, "p919"), Due.times(4, "r919"));
        most.set(LEAD, 99);
        most.set(FILLERS, 4095);
        for (int k = 0; k < 8; k++) {
            most.seen(0, 0);
        }
        DUE.row("the most", Due.counts(most), 12, 4, 59, 19, 8, 108, 99, 12, 0);
        DUE.row("the least", Due.counts(new MayNotPause()), 0, 0, 0, 0, 0, 0, 0, 0, 0);
        for (int what : new int[] {-1, 9, MIN, MAX}) {
            due("no such " + what, most.count(what), BAD);
        }
        due("a chorus again is made", Due.with("c910;c910").count(5), 9);
    }

    private static void latestFinding() {
        DUE.sentence("8 the number of the latest FINDING (0 before any). BAD.");
        MayNotPause x = new MayNotPause();
        due("before any", x.count(8), 0);
        x.type(2, 0);
        x.undo(0);
        due("BAD and NOT are none", x.count(8), 0);
        x.sheet(0, 0, -1);
        due("the first", x.count(8), 5);
        x.lose(4);
        x.get(4, 0, 0);
        x.sheet(0, 0, 61);
        due("BAD changes nothing", x.count(8), 5);
        x.sheet(0, 0, 1);
        x.lay(0, 0, 0, 1);
        x.digest();
        due("what is well changes nothing", x.count(8), 5);
        x.get(0, 0, 1);
        due("the latest", x.count(8), 2);
    }

    private static void digest() {
        DUE.sentence("h is 17; h becomes 31 h and each of");
        MayNotPause x = Due.with("p931;l941;r329;c111;p119", "r019;l010");
        long before = x.digest();
        due("the same again", x.digest(), before);
        x.lose(0);
        due("count 8 is no part", x.digest(), before);
        x.sheet(0, 0, 3);
        due("SHEETS are no part", x.digest(), before);
        x.set(LEAD, 1);
        DUE.holds("LEAD is a part", x.digest() != before);
    }

    // count() 0 to 7 and both faults; poem(), judged(), doing(); put(), order(), lead(), odds(), drawn(), line(), leads().
    private static void digestOfNone() {
        DUE.sentence("count() 0 to 7; of texts fault()");
        long[] parts = {0, 0, 0, 0, 0, 0, 0, 0, -1, -1,
            0, 0, 0, 0, -1,
            -1, -1, -1, -1, -1, -1, -1, -1, -1, -1, -1, -1, -1, -1, -1, -1, -1, -1, -1, -1, -1, -1, -1, -1, -1, -1, -1, -1, -1, -1,
            0, 0, -1, -1, -1, -1, 0, 0, -1, -1, -1, 0, 1, 1, 0, 1, 0, 0, 0, 0, 0, MAX};
        due("of a new object", new MayNotPause().digest(), hashOf(parts));
    }

    private static void digestWraps() {
        DUE.sentence("rest() (as it is told)");
        // p110 by LAW 1 does not BEGIN, so rest() is NOT; in breath 0 he makes it, and then nothing.
        MayNotPause x = Due.with("p110");
        x.set(LAW, 1);
        long[] parts = {1, 0, 4, 0, 0, 1, 0, 0, -1, -1,
            1, 1, 0, 0, 1, 0, -1, -1, -1, -1, -1, -3,
            0, 0, 0, 0, 0,
            -1, 0, -1, -1, -1, -1, -1, -1, -1, -1, -1, -1, -1, -1, -1, -1, -1, -1, -1, -1, -1, -1, -1, -1, -1, -1, -1, -1, -1, -1,
            -1, -1, -1, -1, -1, -1, 1, 3, 0, -1, -1, 1, 1, 1, 1, 1, 1, 1, 0, 0, 0, MAX};
        due("as longs that wrap", x.digest(), hashOf(parts));
    }

    private static long hashOf(long[] parts) {
        java.math.BigInteger h = java.math.BigInteger.valueOf(17);
        for (long part : parts) {
            h = h.multiply(java.math.BigInteger.valueOf(31)).add(java.math.BigInteger.valueOf(part));
        }
        return h.longValue();
    }
}
