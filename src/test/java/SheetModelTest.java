import java.lang.reflect.Array;
import java.util.ArrayList;
import java.util.List;
import java.util.Random;

/**
 * Random runs over SHEETS against rows of Java's own: what the machine throws for such a row is the FINDING that
 * is due, so that their order and their edges come from the machine, not from a reading of the document.
 */
public final class SheetModelTest {
    private static final String[] POEMS = {"", "p312;c224;p510;c224", "r199;r299;r399;l499;l599;r699;r799;p899;p999;l919;r929;p999",
        "p011", "p312;"};
    private static final Due DUE = new Due();

    private final Random random;
    private final MayNotPause x;
    private final Object[] rows = new Object[4];
    private final List<int[]> seen = new ArrayList<>();
    private final StringBuilder calls = new StringBuilder();
    private int latest;

    private SheetModelTest(int run) {
        random = new Random(run);
        x = Due.with(POEMS[run % POEMS.length]);
    }

    public static void main(String[] args) {
        for (int run = 0; run < 500; run++) {
            new SheetModelTest(run).go();
        }
        DUE.end("SheetModelTest");
    }

    private void go() {
        for (int k = 0; k < 150; k++) {
            act(random.nextInt(20));
            DUE.due("count(8) behind" + calls, x.count(8), latest);
            DUE.due("count(4) behind" + calls, x.count(4), seen.size());
        }
        for (int s = 0; s < rows.length; s++) {
            for (int i = 0; rows[s] != null && i < Array.getLength(rows[s]); i++) {
                get(s, formOf(rows[s]), i);
            }
        }
    }

    private void act(int which) {
        switch (which) {
            case 0: lose(sheetAtHand()); break;
            case 1: case 2: case 3: sheet(sheetAtHand(), near(0, 2), near(0, 60)); break;
            case 4: case 5: case 6: layAnywhere(); break;
            case 7: case 8: layToBeSeen(); break;
            case 9: case 10: get(sheetAtHand(), near(0, 2), near(0, 60)); break;
            case 11: case 12: write(sheetAtHand()); break;
            case 13: case 14: read(sheetAtHand()); break;
            default: copyAnywhere(); break;
        }
    }

    // Mostly within, sometimes just outside, seldom far away.
    private int near(int least, int most) {
        int pick = random.nextInt(40);
        return pick == 0 ? random.nextInt() : pick == 1 ? least - 1 : pick == 2 ? most + 1
            : least + random.nextInt(most - least + 1);
    }

    private int sheetAtHand() {
        return near(0, 3);
    }

    private static boolean isIn(int v, int most) {
        return v >= 0 && v <= most;
    }

    private static int formOf(Object row) {
        return row instanceof byte[] ? 0 : row instanceof short[] ? 1 : 2;
    }

    private int lengthAt(int s) {
        return isIn(s, 3) && rows[s] != null ? Array.getLength(rows[s]) : 0;
    }

    private void tell(String call, int got, int want) {
        calls.append(' ').append(call);
        DUE.due(calls.toString(), got, want);
    }

    private interface Doing {
        int answer();
    }

    // What the machine throws, as the document numbers it.
    private int byTheMachine(Doing doing) {
        try {
            return doing.answer();
        } catch (NullPointerException e) {
            latest = 1;
        } catch (IndexOutOfBoundsException e) {
            latest = 2;
        } catch (ClassCastException e) {
            latest = 3;
        } catch (ArrayStoreException e) {
            latest = 4;
        } catch (NegativeArraySizeException e) {
            latest = 5;
        }
        return -10 - latest;
    }

    private void sheet(int s, int form, int n) {
        int want = !isIn(s, 3) || !isIn(form, 2) || n > 60 ? -2 : byTheMachine(() -> {
            rows[s] = form == 0 ? new byte[n] : form == 1 ? new short[n] : new int[n];
            return n;
        });
        tell("sheet(" + s + ", " + form + ", " + n + ")", x.sheet(s, form, n), want);
    }

    private void lose(int s) {
        int want = !isIn(s, 3) ? -2 : byTheMachine(() -> {
            int had = Array.getLength(rows[s]);
            rows[s] = null;
            return had;
        });
        tell("lose(" + s + ")", x.lose(s), want);
    }

    private void layAnywhere() {
        int s = sheetAtHand();
        int form = isIn(s, 3) && random.nextInt(5) > 0 ? formOf(rows[s]) : near(0, 2);
        int v = random.nextBoolean() ? random.nextInt() : near(-130, 300);
        lay(s, form, near(0, Math.max(0, lengthAt(s) - 1)), v);
    }

    // Pairs that read() can take, most of them.
    private void layToBeSeen() {
        int s = random.nextInt(4), form = formOf(rows[s]);
        for (int i = 0; i + 1 < Math.min(8, lengthAt(s)); i += 2) {
            lay(s, form, i, near(0, 299));
            lay(s, form, i + 1, near(-1, 11));
        }
    }

    private void lay(int s, int form, int i, int v) {
        int want = !isIn(s, 3) || !isIn(form, 2) ? -2 : byTheMachine(() -> {
            if (form == 0) {
                ((byte[]) rows[s])[i] = (byte) v;
            } else if (form == 1) {
                ((short[]) rows[s])[i] = (short) v;
            } else {
                ((int[]) rows[s])[i] = v;
            }
            return 1;
        });
        tell("lay(" + s + ", " + form + ", " + i + ", " + v + ")", x.lay(s, form, i, v), want);
    }

    private int item(int s, int form, int i) {
        return form == 0 ? ((byte[]) rows[s])[i] : form == 1 ? ((short[]) rows[s])[i] : ((int[]) rows[s])[i];
    }

    private void get(int s, int form, int i) {
        int before = latest;
        latest = 0;
        int item = !isIn(s, 3) || !isIn(form, 2) ? Integer.MIN_VALUE : byTheMachine(() -> item(s, form, i));
        int want = latest == 0 ? item : Integer.MIN_VALUE;
        latest = latest == 0 ? before : latest;
        tell("get(" + s + ", " + form + ", " + i + ")", x.get(s, form, i), want);
    }

    private void copyAnywhere() {
        int s = sheetAtHand(), t = random.nextBoolean() ? s : sheetAtHand();
        int i = near(0, lengthAt(s)), j = near(0, lengthAt(t));
        int room = Math.max(0, Math.min(lengthAt(s) - i, lengthAt(t) - j));
        int n = near(0, room);
        int want = !isIn(s, 3) || !isIn(t, 3) ? -2 : byTheMachine(() -> {
            System.arraycopy(rows[s], i, rows[t], j, n);
            return 1;
        });
        tell("copy(" + s + ", " + i + ", " + t + ", " + j + ", " + n + ")", x.copy(s, i, t, j, n), want);
    }

    private void write(int s) {
        int want = !isIn(s, 3) ? -2 : byTheMachine(() -> {
            int n = Math.min(Array.getLength(rows[s]), x.count(0));
            for (int v = 0; v < n; v++) {
                int begins = x.when(v, 0);
                if (rows[s] instanceof byte[] row) {
                    row[v] = (byte) begins;
                } else if (rows[s] instanceof short[] row) {
                    row[v] = (short) begins;
                } else {
                    ((int[]) rows[s])[v] = begins;
                }
            }
            return n;
        });
        tell("write(" + s + ")", x.write(s), want);
    }

    private void read(int s) {
        if (random.nextInt(3) == 0) {
            tell("forget()", x.forget(), seen.size());
            seen.clear();
        }
        int want = !isIn(s, 3) ? -2 : byTheMachine(() -> {
            int whole = Array.getLength(rows[s]) / 2, form = formOf(rows[s]), k = 0;
            while (k < whole && maySee(item(s, form, 2 * k), item(s, form, 2 * k + 1))) {
                k++;
            }
            return k;
        });
        tell("read(" + s + ")", x.read(s), want);
    }

    private boolean maySee(int breath, int verse) {
        boolean may = isIn(breath, 299) && isIn(verse + 1, 12) && seen.size() < 8;
        if (may) {
            seen.add(new int[] {breath, verse});
        }
        return may;
    }
}
