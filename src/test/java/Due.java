/** Collects the answers that are not as due, and ends a test by them. */
final class Due {
    private int wrong, asked, askedAhead;
    private String words = "";

    /** The document's words by which the answers that follow are due. */
    void sentence(String next) {
        endSentence();
        words = next;
        askedAhead = asked;
    }

    // Words that nothing was asked for are not tested at all.
    private void endSentence() {
        if (!words.isEmpty() && asked == askedAhead) {
            wrong++;
            System.out.println("nothing was asked for \"" + words + "\"");
        }
    }

    void due(String call, long got, long want) {
        asked++;
        if (got != want) {
            wrong++;
            String by = words.isEmpty() ? "" : " by \"" + words + "\"";
            System.out.println(call + " answered " + got + ", due is " + want + by);
        }
    }

    void row(String call, long[] got, long... want) {
        due(call + " length", got.length, want.length);
        for (int i = 0; i < got.length && i < want.length; i++) {
            due(call + " [" + i + "]", got[i], want[i]);
        }
    }

    void holds(String what, boolean isSo) {
        due(what, isSo ? 1 : 0, 1);
    }

    void end(String name) {
        endSentence();
        System.out.println(name + ": " + asked + " asked, " + wrong + " wrong");
        if (wrong != 0) {
            System.exit(1);
        }
    }

    static MayNotPause with(String verses, String hards) {
        MayNotPause x = new MayNotPause();
        typeAll(x, 0, verses);
        typeAll(x, 1, hards);
        return x;
    }

    static MayNotPause with(String verses) {
        return with(verses, "");
    }

    static void typeAll(MayNotPause x, int text, String bytes) {
        for (char b : bytes.toCharArray()) {
            x.type(text, b);
        }
    }

    /** The same verse so many times, with ; between them. */
    static String times(int n, String verse) {
        return String.join(";", java.util.Collections.nCopies(n, verse));
    }

    static long[] whens(MayNotPause x, int verse) {
        return new long[] {x.when(verse, 0), x.when(verse, 1), x.when(verse, 2), x.when(verse, 3), x.when(verse, 4)};
    }

    static long[] poems(MayNotPause x) {
        return new long[] {x.poem(0), x.poem(1), x.poem(2), x.poem(3)};
    }

    static long[] doings(MayNotPause x, int what, int from, int till) {
        long[] all = new long[till - from];
        for (int breath = from; breath < till; breath++) {
            all[breath - from] = x.doing(breath, what);
        }
        return all;
    }

    static long[] puts(MayNotPause x) {
        return new long[] {x.put(0), x.put(1), x.put(2), x.put(3), x.put(4), x.put(5)};
    }

    static long[] orders(MayNotPause x) {
        long[] all = new long[9];
        for (int i = -2; i <= 6; i++) {
            all[i + 2] = x.order(i);
        }
        return all;
    }

    static long[] oddsOf(MayNotPause x) {
        return new long[] {x.odds(0), x.odds(1), x.odds(2), x.odds(3)};
    }

    static long[] counts(MayNotPause x) {
        long[] all = new long[9];
        for (int what = 0; what < 9; what++) {
            all[what] = x.count(what);
        }
        return all;
    }
}
