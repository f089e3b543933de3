import java.util.ArrayList;
import java.util.List;
import java.util.function.Supplier;
import java.util.function.ToLongFunction;

/**
 * 'Refusals, the first that fits, in the order told at each act', and that they change nothing: each refused call is made
 * on one of two twins, and all that the twins tell afterwards is compared.
 */
public final class RefusalsTest {
    private static final int BAD = -2, NOT = -3, FULL = -4;
    private static final int NULL = -11, INDEX = -12, CAST = -13, STORE = -14, SIZE = -15;
    private static final int MIN = Integer.MIN_VALUE, MAX = Integer.MAX_VALUE;
    private static final int LONG_BAD = -1000;
    private static final Due DUE = new Due();

    private record Call(String name, ToLongFunction<MayNotPause> act, long due) {
        // The number of the FINDING that it is, or 0.
        int finding() {
            if (name.startsWith("get")) {
                return (int) due;
            }
            return due <= NULL && due >= SIZE ? (int) (-10 - due) : 0;
        }

        long answer() {
            return name.startsWith("get") ? MIN : due == LONG_BAD ? Long.MIN_VALUE + 2 : due;
        }
    }

    private static final List<Call> CALLS = new ArrayList<>();

    public static void main(String[] args) {
        texts();
        tellings();
        seen();
        rows();
        items();
        copies();
        changeNothing("rich", RefusalsTest::rich);
        inOtherStates();
        afterAnother();
        DUE.end("RefusalsTest");
    }

    private static void add(String name, long due, ToLongFunction<MayNotPause> act) {
        CALLS.add(new Call(name, act, due));
    }

    private static void texts() {
        for (int text : new int[] {-1, 2, MIN, MAX}) {
            add("type no text", BAD, x -> x.type(text, 'p'));
            add("type no text and no byte", BAD, x -> x.type(text, 256));
            add("wipe no text", BAD, x -> x.wipe(text));
            add("undo no text", BAD, x -> x.undo(text));
            add("fault of no text", BAD, x -> x.fault(text));
        }
        for (int text = 0; text < 2; text++) {
            int t = text;
            for (int b : new int[] {-1, 256, MIN, MAX, 256 + 'p'}) {
                add("type no byte", BAD, x -> x.type(t, b));
            }
        }
        for (int what : new int[] {-1, 6, MIN, MAX}) {
            add("set no such", BAD, x -> x.set(what, 1));
        }
        int[] least = {0, 1, 0, 0, 0, 0}, most = {99, 99, 9, 9, 1, 4095};
        for (int what = 0; what < 6; what++) {
            for (int v : new int[] {least[what] - 1, most[what] + 1, MIN, MAX}) {
                int w = what;
                add("set too little or too much", BAD, x -> x.set(w, v));
            }
        }
    }

    private static void tellings() {
        for (int v : new int[] {-1, 5, 12, MIN, MAX}) {
            add("no verse", BAD, x -> x.verse(v, 0));
            add("when of no verse", BAD, x -> x.when(v, 0));
            add("rest of no verse", BAD, x -> x.rest(v));
        }
        for (int far : new int[] {-1, 6, MIN, MAX}) {
            add("verse no such", BAD, x -> x.verse(0, far));
            add("when no such", BAD, x -> x.when(0, far));
            add("poem no such", BAD, x -> x.poem(far));
            add("doing no such", BAD, x -> x.doing(0, far));
            add("put no such", BAD, x -> x.put(far));
            add("odds no such", LONG_BAD, x -> x.odds(far));
            add("line no such", BAD, x -> x.line(0, far));
            add("BEST LINE no such", BAD, x -> x.line(-1, far));
        }
        for (int breath : new int[] {-1, 300, MIN, MAX}) {
            add("doing in no breath", BAD, x -> x.doing(breath, 1));
        }
        for (int i : new int[] {-3, 7, MIN, MAX}) {
            add("order no such", BAD, x -> x.order(i));
        }
        for (int h : new int[] {-2, 11, MIN, MAX}) {
            add("no line", BAD, x -> x.line(h, 0));
        }
        for (int what : new int[] {-1, 9, MIN, MAX}) {
            add("count no such", BAD, x -> x.count(what));
        }
        add("rest of one that is not said", NOT, x -> x.rest(3));
        add("rest of one behind it", NOT, x -> x.rest(4));
    }

    private static void seen() {
        for (int breath : new int[] {-1, 300, MIN, MAX}) {
            add("seen in no breath", BAD, x -> x.seen(breath, 0));
            add("seen in no breath no verse", BAD, x -> x.seen(breath, 12));
        }
        for (int verse : new int[] {-2, 12, MIN, MAX}) {
            add("seen no verse", BAD, x -> x.seen(0, verse));
        }
        for (int s : new int[] {-1, 4, MIN, MAX}) {
            add("read no sheet", BAD, x -> x.read(s));
        }
        add("read a LOST one", NULL, x -> x.read(3));
    }

    private static void rows() {
        for (int s : new int[] {-1, 4, MIN, MAX}) {
            add("sheet no sheet", BAD, x -> x.sheet(s, 0, 1));
            add("sheet no sheet, SIZE", BAD, x -> x.sheet(s, 0, -1));
            add("lose no sheet", BAD, x -> x.lose(s));
            add("write to no sheet", BAD, x -> x.write(s));
        }
        for (int form : new int[] {-1, 3, MIN, MAX}) {
            add("sheet no form", BAD, x -> x.sheet(0, form, 1));
            add("sheet no form, SIZE", BAD, x -> x.sheet(0, form, -1));
        }
        for (int s = 0; s < 4; s++) {
            int t = s;
            for (int n : new int[] {61, MAX}) {
                add("sheet above 60", BAD, x -> x.sheet(t, 2, n));
            }
            for (int n : new int[] {-1, MIN}) {
                add("sheet below 0", SIZE, x -> x.sheet(t, 2, n));
            }
        }
        add("lose a LOST one", NULL, x -> x.lose(3));
        add("write to a LOST one", NULL, x -> x.write(3));
    }

    private static void items() {
        for (int s : new int[] {-1, 4, MIN, MAX}) {
            item("no sheet", BAD, s, 0, 0);
            item("no sheet, no form, no item", BAD, s, 3, -1);
        }
        for (int form : new int[] {-1, 3, MIN, MAX}) {
            item("no form", BAD, 0, form, 0);
            item("no form of a LOST one", BAD, 3, form, 0);
            item("no form, no item", BAD, 0, form, -1);
        }
        for (int form = 0; form < 3; form++) {
            item("a LOST one", NULL, 3, form, 0);
            item("a LOST one, no item", NULL, 3, form, -1);
            for (int s = 0; s < 3; s++) {
                for (int i : new int[] {-1, 4, MIN, MAX}) {
                    item("no item", s == form ? INDEX : CAST, s, form, i);
                }
                if (s != form) {
                    item("another form", CAST, s, form, 0);
                }
            }
        }
    }

    private static void item(String name, int due, int s, int form, int i) {
        add("lay " + name, due, x -> x.lay(s, form, i, 77));
        add("get " + name, due == BAD ? 0 : -10 - due, x -> x.get(s, form, i));
    }

    private static void copies() {
        for (int s : new int[] {-1, 4, MIN, MAX}) {
            add("copy no sheet", BAD, x -> x.copy(s, 0, 0, 0, 1));
            add("copy to no sheet", BAD, x -> x.copy(0, 0, s, 0, 1));
            add("copy a LOST one to no sheet", BAD, x -> x.copy(3, 0, s, 0, 1));
            add("copy no sheet to a LOST one", BAD, x -> x.copy(s, 0, 3, 0, 1));
        }
        add("copy a LOST one", NULL, x -> x.copy(3, -1, 0, -1, -1));
        add("copy to a LOST one", NULL, x -> x.copy(0, -1, 3, -1, -1));
        add("copy a LOST one to itself", NULL, x -> x.copy(3, 0, 3, 0, 0));
        add("copy unlike forms", STORE, x -> x.copy(0, 0, 1, 0, 1));
        add("copy unlike forms, no items", STORE, x -> x.copy(1, -1, 2, 9, -1));
        int[][] outside = {{-1, 0, 1}, {0, -1, 1}, {0, 0, -1}, {4, 0, 1}, {0, 4, 1}, {0, 0, 5}, {1, 0, 4}, {0, 1, 4}, {5, 0, 0},
            {0, 5, 0}, {1, 0, MAX}, {MAX, 0, MAX}, {MIN, 0, MAX}, {0, MIN, 1}, {0, 0, MIN}};
        for (int[] o : outside) {
            add("copy no such items", INDEX, x -> x.copy(1, o[0], 1, o[1], o[2]));
        }
    }

    // By LAW 1 the fourth verse is not said; the SHEETS 0 to 2 have 4 items of their FORMS.
    private static MayNotPause rich() {
        MayNotPause x = Due.with("p231;l921;r910;p910;p119", "r019;l010");
        int[] settings = {11, 12, 2, 5, 1, 0b10110};
        for (int what = 0; what < 6; what++) {
            x.set(what, settings[what]);
        }
        x.seen(0, 1);
        x.seen(9, 3);
        for (int s = 0; s < 3; s++) {
            x.sheet(s, s, 4);
            for (int i = 0; i < 4; i++) {
                x.lay(s, s, i, 1000 * i + s - 2);
            }
        }
        return x;
    }

    private static void changeNothing(String name, Supplier<MayNotPause> maker) {
        DUE.sentence("Refusals, the first that fits, in the order told at each act: BAD -2 (a number not as told, no such thing), "
            + "NULL, NOT -3 (as told), FULL -4, other FINDINGS. They change nothing (FINDINGS but count() 8).");
        List<Long> untouched = allOf(maker.get());
        for (Call call : CALLS) {
            MayNotPause x = maker.get();
            int latest = x.count(8);
            DUE.due(name + ": " + call.name, call.act.applyAsLong(x), call.answer());
            DUE.due(name + ": count 8 behind " + call.name, x.count(8), call.finding() == 0 ? latest : call.finding());
            DUE.holds(name + ": nothing is changed by " + call.name, allOf(x).equals(untouched));
        }
    }

    // What changes as it is asked (settings, SHEETS, SEEN) comes last.
    private static List<Long> allOf(MayNotPause x) {
        List<Long> all = new ArrayList<>();
        all.add(x.digest());
        addAll(all, Due.poems(x));
        addAll(all, Due.puts(x));
        addAll(all, Due.orders(x));
        addAll(all, Due.doings(x, 1, 0, 40));
        for (int what = 0; what < 8; what++) {
            all.add((long) x.count(what));
        }
        for (int what = 0; what < 6; what++) {
            all.add((long) x.set(what, 1));
        }
        for (int s = 0; s < 4; s++) {
            for (int form = 0; form < 3; form++) {
                for (int i = 0; i < 5; i++) {
                    all.add((long) x.get(s, form, i));
                }
            }
            all.add((long) x.lose(s));
        }
        for (int text = 0; text < 2; text++) {
            all.add((long) x.undo(text));
            all.add((long) x.wipe(text));
        }
        all.add((long) x.seen(0, 0));
        all.add((long) x.forget());
        return all;
    }

    private static void addAll(List<Long> all, long[] more) {
        for (long each : more) {
            all.add(each);
        }
    }

    private static void inOtherStates() {
        CALLS.clear();
        for (int text = 0; text < 2; text++) {
            int t = text;
            add("type when it is full", FULL, x -> x.type(t, 'p'));
            add("type 0 when it is full", FULL, x -> x.type(t, 0));
            add("type no byte when it is full", BAD, x -> x.type(t, 256));
        }
        add("seen when it is full", FULL, x -> x.seen(0, 0));
        add("seen none when it is full", FULL, x -> x.seen(299, -1));
        add("seen in no breath when it is full", BAD, x -> x.seen(300, 0));
        add("seen no verse when it is full", BAD, x -> x.seen(0, 12));
        changeNothing("full", RefusalsTest::full);
        CALLS.clear();
        for (int text = 0; text < 2; text++) {
            int t = text;
            add("undo when there are none", NOT, x -> x.undo(t));
        }
        add("no verse is there", BAD, x -> x.verse(0, 0));
        add("no rest is there", BAD, x -> x.rest(0));
        changeNothing("empty", MayNotPause::new);
        changeNothing("with a FAULT", () -> Due.with("p231;l921;", "r019;l01x"));
    }

    private static MayNotPause full() {
        MayNotPause x = Due.with(Due.times(12, "p119"), Due.times(4, "l010"));
        for (int k = 0; k < 8; k++) {
            x.seen(k, -1);
        }
        return x;
    }

    private static void afterAnother() {
        DUE.sentence("They change nothing (FINDINGS but count() 8).");
        MayNotPause x = rich();
        int[] findings = {x.lose(3), x.lay(0, 1, 0, 0), x.lay(0, 0, 9, 0), x.copy(0, 0, 1, 0, 0), x.sheet(0, 0, -1)};
        int[] due = {NULL, CAST, INDEX, STORE, SIZE};
        for (int i = 0; i < due.length; i++) {
            DUE.due("a finding", findings[i], due[i]);
        }
        DUE.due("the latest", x.count(8), 5);
        DUE.due("BAD", x.lay(4, 0, 0, 0), BAD);
        DUE.due("the latest still", x.count(8), 5);
    }
}
