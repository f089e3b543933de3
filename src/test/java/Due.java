/** Collects the answers that are not as due, and ends a test by them. */
final class Due {
    private int wrong, asked;

    void due(String call, long got, long want) {
        asked++;
        if (got != want) {
            wrong++;
            System.out.println(call + " answered " + got + ", due is " + want);
        }
    }

    void holds(String what, boolean isSo) {
        due(what, isSo ? 1 : 0, 1);
    }

    void end(String name) {
        System.out.println(name + ": " + asked + " asked, " + wrong + " wrong");
        if (wrong != 0) {
            System.exit(1);
        }
    }

    static MayNotPause with(String verses, String hards) {
        MayNotPause x = new MayNotPause();
        typeAll(x, 0, verses);
        typeAll(x, 1, hards);
        return x;
    }

    static void typeAll(MayNotPause x, int text, String bytes) {
        for (char b : bytes.toCharArray()) {
            x.type(text, b);
        }
    }
}
