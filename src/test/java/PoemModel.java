import java.math.BigInteger;
import java.util.ArrayList;
import java.util.Arrays;
import java.util.List;
import java.util.regex.Pattern;

/**
 * The document's poem, told another way than the class does: breath by breath,
 * with every search by trying all. It shares no code with the class.
 */
final class PoemModel {
    // More than any poem lasts; how far one is looked at is told apart, as searches tell many.
    private static final int BREATHS = 900;
    static final int ASKED_BREATHS = 300;

    record Verse(char kind, int make, int say, int knot) { }

    record Rules(int lead, int wear, int change, int pens, int law) {
        Rules withLead(int l) {
            return new Rules(l, wear, change, pens, law);
        }
    }

    final List<Verse> row;
    final int[] make, knot, begins, said, understood, written, pause, rest;
    final int[] saying, making, inHand;
    int pensTaken;
    private final int[] need;

    private enum Phase { WAIT, SAY, UNDERSTAND, CHANGE, WRITE, OVER }

    PoemModel(List<Verse> row, Rules rules) {
        this(row, rules, ASKED_BREATHS);
    }

    private PoemModel(List<Verse> row, Rules rules, int asked) {
        this.row = row;
        int n = row.size();
        make = new int[n];
        knot = new int[n];
        for (int v = 0; v < n; v++) {
            Verse it = row.get(v);
            int ahead = 0;
            for (Verse other : row.subList(0, v)) {
                ahead += other.kind == it.kind ? 1 : 0;
            }
            if (it.kind == 'c' && ahead > 0) {
                make[v] = 0;
                knot[v] = 0;
            } else {
                make[v] = it.make;
                knot[v] = Math.max(0, it.knot - ahead);
            }
        }
        begins = nones(n);
        said = nones(n);
        understood = nones(n);
        written = nones(n);
        pause = nones(n);
        rest = new int[n];
        saying = nones(asked);
        making = nones(asked);
        inHand = nones(asked);
        need = make.clone();
        Arrays.parallelPrefix(need, Integer::sum);
        breathe(rules, asked);
    }

    private static int[] nones(int n) {
        int[] row = new int[n];
        Arrays.fill(row, -1);
        return row;
    }

    private void breathe(Rules rules, int asked) {
        int n = row.size(), v = 0, left = 0, freeSince = 0, could = rules.lead, used = 0;
        Phase phase = n == 0 ? Phase.OVER : Phase.WAIT;
        for (int t = 0; t < asked || phase != Phase.OVER; t++) {
            if (t > BREATHS) {
                throw new IllegalStateException("a poem that does not end");
            }
            boolean moved = true;
            while (moved) {
                moved = false;
                if (phase == Phase.WAIT) {
                    if (could >= need[v]) {
                        begins[v] = t;
                        pause[v] = t - freeSince;
                        rest[v] = could - need[v];
                        phase = Phase.SAY;
                        left = row.get(v).say;
                        moved = true;
                    } else if (rules.law == 1) {
                        phase = Phase.OVER;
                    }
                } else if (phase == Phase.SAY && left == 0) {
                    said[v] = t;
                    phase = Phase.UNDERSTAND;
                    left = knot[v];
                    moved = true;
                } else if (phase == Phase.UNDERSTAND && left == 0) {
                    understood[v] = t;
                    boolean anew = used > 0 && used + writing(v) > rules.wear;
                    if (anew && pensTaken == rules.pens) {
                        phase = Phase.OVER;
                    } else {
                        phase = Phase.CHANGE;
                        left = anew ? rules.change : 0;
                        pensTaken += anew ? 1 : 0;
                        used = anew ? 0 : used;
                        moved = true;
                    }
                } else if (phase == Phase.CHANGE && left == 0) {
                    phase = Phase.WRITE;
                    left = writing(v);
                    used += left;
                    moved = true;
                } else if (phase == Phase.WRITE && left == 0) {
                    written[v] = t;
                    freeSince = t;
                    v++;
                    phase = v == n ? Phase.OVER : Phase.WAIT;
                    moved = true;
                }
            }
            boolean says = phase == Phase.SAY;
            boolean makes = !says || row.get(v).kind == 'l';
            if (t < asked) {
                saying[t] = says ? v : -1;
                inHand[t] = says || phase == Phase.WAIT || phase == Phase.OVER ? -1 : v;
                making[t] = makes ? inTheMaking(could) : -1;
            }
            could += makes ? 1 : 0;
            left--;
        }
    }

    private int inTheMaking(int made) {
        int v = 0;
        while (v < need.length && made >= need[v]) {
            v++;
        }
        return v < need.length ? v : -1;
    }

    private int writing(int v) {
        return row.get(v).say + (row.get(v).kind == 'r' ? 2 : 0);
    }

    int howManyWritten() {
        return (int) Arrays.stream(written).filter(w -> w >= 0).count();
    }

    int lastWritten() {
        return Arrays.stream(written).filter(w -> w >= 0).max().orElse(0);
    }

    int allPauses() {
        return Arrays.stream(pause).filter(p -> p > 0).sum();
    }

    int judged() {
        for (int v = 0; v < row.size(); v++) {
            if (pause[v] > 0 || written[v] < 0) {
                return v;
            }
        }
        return -1;
    }

    // ---- texts

    static int fault(String text) {
        if (text.isEmpty() || isWell(text)) {
            return -1;
        }
        for (int i = 0; i < text.length(); i++) {
            if (!canGoOn(text.substring(0, i + 1))) {
                return i;
            }
        }
        return text.length();
    }

    private static boolean isWell(String text) {
        return Pattern.matches("[pclr]\\d[1-9]\\d(;[pclr]\\d[1-9]\\d)*", text);
    }

    private static boolean canGoOn(String head) {
        return Pattern.matches("([pclr]\\d[1-9]\\d;)*([pclr](\\d([1-9](\\d)?)?)?)?", head);
    }

    static List<Verse> parse(String text) {
        List<Verse> all = new ArrayList<>();
        if (!text.isEmpty() && fault(text) == -1) {
            for (String one : text.split(";")) {
                all.add(new Verse(one.charAt(0), one.charAt(1) - '0', one.charAt(2) - '0', one.charAt(3) - '0'));
            }
        }
        return all;
    }

    // ---- searches

    static int[] put(List<Verse> verses, List<Verse> hards, Rules rules) {
        int[] best = null;
        int n = verses.size(), h = hards.size();
        best = better(best, tryPut(verses, hards, rules, -1, -1, -1, -1));
        for (int p = 0; p <= n && (best == null || best[0] > 0); p++) {
            for (int a = 0; a < h; a++) {
                best = better(best, tryPut(verses, hards, rules, p, -1, a, -1));
            }
        }
        for (int p = 0; p <= n && (best == null || best[0] > 1); p++) {
            for (int q = p; q <= n; q++) {
                for (int a = 0; a < h; a++) {
                    for (int b = 0; b < h; b++) {
                        best = better(best, tryPut(verses, hards, rules, p, q, a, b));
                    }
                }
            }
        }
        return best == null ? nones(6) : new int[] {best[0], best[1], best[2], best[4], best[3], best[5]};
    }

    private static int[] better(int[] a, int[] b) {
        if (a == null || b == null) {
            return a == null ? b : a;
        }
        return Arrays.compare(a, b) <= 0 ? a : b;
    }

    private static int[] tryPut(List<Verse> verses, List<Verse> hards, Rules rules, int p, int q, int a, int b) {
        List<Verse> row = new ArrayList<>(verses);
        // From the back on, so that the first place is still where it was.
        if (q >= 0) {
            row.add(q, hards.get(b));
        }
        if (p >= 0) {
            row.add(p, hards.get(a));
        }
        PoemModel told = new PoemModel(row, rules, 0);
        int many = (p >= 0 ? 1 : 0) + (q >= 0 ? 1 : 0);
        return told.judged() >= 0 ? null : new int[] {many, told.lastWritten(), p, q, a, b};
    }

    /** Pauses, LONG, then the row, with NONE behind it. */
    static int[] order(List<Verse> verses, Rules rules) {
        Rules free = new Rules(rules.lead, rules.wear, rules.change, 1000, 0);
        int n = Math.min(7, verses.size());
        int[][] best = new int[1][];
        permute(verses, free, new ArrayList<>(), n, best);
        int[] full = nones(9);
        System.arraycopy(best[0], 0, full, 0, best[0].length);
        return full;
    }

    private static void permute(List<Verse> verses, Rules rules, List<Integer> row, int n, int[][] best) {
        if (row.size() == n) {
            List<Verse> poem = new ArrayList<>();
            row.forEach(v -> poem.add(verses.get(v)));
            PoemModel told = new PoemModel(poem, rules, 0);
            int[] found = new int[n + 2];
            found[0] = told.allPauses();
            found[1] = told.lastWritten();
            for (int i = 0; i < n; i++) {
                found[i + 2] = row.get(i);
            }
            best[0] = better(best[0], found);
            return;
        }
        for (int v = n - 1; v >= 0; v--) {
            if (!row.contains(v)) {
                row.add(v);
                permute(verses, rules, row, n, best);
                row.remove(row.size() - 1);
            }
        }
    }

    static int lead(List<Verse> verses, Rules rules) {
        for (int l = 0; l <= 99; l++) {
            if (new PoemModel(verses, rules.withLead(l), 0).judged() == -1) {
                return l;
            }
        }
        return -1;
    }

    static int leads(List<Verse> verses, Rules rules, List<int[]> seen) {
        int bits = 0;
        for (int l = 0; l <= 30; l++) {
            PoemModel told = new PoemModel(verses, rules.withLead(l));
            if (seen.stream().allMatch(s -> told.making[s[0]] == s[1])) {
                bits |= 1 << l;
            }
        }
        return bits;
    }

    // ---- odds

    private int sixteenths(int v) {
        return knot[v] >= 6 ? knot[v] - 5 : 0;
    }

    /** WHOLE above, below, MEAN above, below. */
    long[] odds() {
        BigInteger above = BigInteger.ONE, below = BigInteger.ONE;
        BigInteger meanAbove = BigInteger.ZERO, meanBelow = BigInteger.ONE;
        for (int v = 0; v < row.size(); v++) {
            above = above.multiply(BigInteger.valueOf(16 - sixteenths(v)));
            below = below.multiply(BigInteger.valueOf(16));
            meanAbove = meanAbove.multiply(below).add(above.multiply(meanBelow));
            meanBelow = meanBelow.multiply(below);
            BigInteger g = meanAbove.gcd(meanBelow);
            meanAbove = meanAbove.divide(g);
            meanBelow = meanBelow.divide(g);
        }
        BigInteger g = above.gcd(below);
        return new long[] {above.divide(g).longValueExact(), below.divide(g).longValueExact(),
            meanAbove.longValueExact(), meanBelow.longValueExact()};
    }

    int drawn(int seed) {
        long s = seed & 0xFFFFFFFFL;
        int v = 0;
        for (; v < row.size(); v++) {
            if (sixteenths(v) > 0) {
                s = (1103515245L * s + 12345) & 0xFFFFFFFFL;
                if (s / 65536 % 16 < sixteenths(v)) {
                    break;
                }
            }
        }
        return v;
    }

    static int[] errors(List<Verse> verses, int fillers, int h) {
        int[] both = new int[2];
        for (int v = 0; v < verses.size(); v++) {
            boolean called = verses.get(v).knot >= h, filler = (fillers & 1 << v) != 0;
            both[0] += called && !filler ? 1 : 0;
            both[1] += !called && filler ? 1 : 0;
        }
        return both;
    }
}
