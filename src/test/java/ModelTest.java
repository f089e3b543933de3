import java.util.ArrayList;
import java.util.List;
import java.util.Random;

/** Random runs of calls, with every answer that PoemModel tells, and the digest put together from them. */
public final class ModelTest {
    private static final String[] KINDS = {"pclr", "pppp", "pr", "cl", "ccrl", "prrl"};
    private static final Due DUE = new Due();

    private final Random random;
    private final MayNotPause x = new MayNotPause();
    private final StringBuilder[] texts = {new StringBuilder(), new StringBuilder()};
    private final int[] settings = {0, 99, 0, 9, 0, 0};
    private final List<int[]> seen = new ArrayList<>();
    private final String name;
    private final boolean searches;

    private ModelTest(int run, boolean searches) {
        random = new Random(run);
        name = "run " + run + " ";
        this.searches = searches;
    }

    public static void main(String[] args) {
        for (int run = 0; run < 400; run++) {
            new ModelTest(run, run % 4 == 0).go();
        }
        DUE.end("ModelTest");
    }

    private void go() {
        for (int round = 0; round < 4; round++) {
            changeTexts();
            changeSettings();
            changeSeen();
            compare();
        }
    }

    private void due(String call, long got, long want) {
        DUE.due(name + texts[0] + " / " + texts[1] + ": " + call, got, want);
    }

    private String someVerses(int n) {
        String kinds = KINDS[random.nextInt(KINDS.length)];
        // Small MAKE makes it likely that HARD ones are of use.
        int mostMake = random.nextBoolean() ? 1 + random.nextInt(2) : 1 + random.nextInt(9);
        int mostSay = 1 + random.nextInt(9), mostKnot = 1 + random.nextInt(9);
        List<String> all = new ArrayList<>();
        for (int v = 0; v < n; v++) {
            all.add("" + kinds.charAt(random.nextInt(kinds.length())) + random.nextInt(mostMake + 1)
                + (1 + random.nextInt(mostSay)) + random.nextInt(mostKnot + 1));
        }
        return String.join(";", all);
    }

    private void changeTexts() {
        for (int t = 0; t < 2; t++) {
            int act = random.nextInt(6);
            int most = t == 0 ? 59 : 19;
            if (act == 0 && PoemModel.parse(texts[t].toString()).size() > 0) {
                undoOne(t);
            } else if (act == 1 && texts[t].length() < most) {
                texts[t].append((char) (random.nextInt(3) == 0 ? random.nextInt(256) : ';'));
                due("type", x.type(t, texts[t].charAt(texts[t].length() - 1)), texts[t].length());
            } else if (act > 1) {
                due("wipe", x.wipe(t), texts[t].length());
                texts[t].setLength(0);
                String verses = someVerses(random.nextInt(t == 0 ? 13 : 5));
                for (char b : verses.toCharArray()) {
                    texts[t].append(b);
                    due("type", x.type(t, b), texts[t].length());
                }
            }
            due("fault", x.fault(t), PoemModel.fault(texts[t].toString()));
        }
    }

    private void undoOne(int t) {
        int left = PoemModel.parse(texts[t].toString()).size() - 1;
        texts[t].setLength(Math.max(0, texts[t].lastIndexOf(";")));
        due("undo", x.undo(t), left);
    }

    private void changeSettings() {
        int[] least = {0, 1, 0, 0, 0, 0};
        int[] often = {12, 20, 3, 4, 1, 4095};
        int[] most = {99, 99, 9, 9, 1, 4095};
        for (int what = 0; what < 6; what++) {
            if (random.nextInt(3) > 0) {
                int top = random.nextInt(3) > 0 ? often[what] : most[what];
                int v = least[what] + random.nextInt(top - least[what] + 1);
                due("set", x.set(what, v), settings[what]);
                settings[what] = v;
            }
        }
    }

    private PoemModel.Rules rules() {
        return new PoemModel.Rules(settings[0], settings[1], settings[2], settings[3], settings[4]);
    }

    // Mostly what does come out by some LEAD, or else LEADS would be empty.
    private void changeSeen() {
        if (random.nextInt(3) == 0) {
            due("forget", x.forget(), seen.size());
            seen.clear();
        }
        PoemModel told = new PoemModel(PoemModel.parse(texts[0].toString()), rules().withLead(random.nextInt(31)));
        for (int k = random.nextInt(4); k > 0; k--) {
            int breath = random.nextInt(random.nextBoolean() ? 20 : 300);
            int verse = random.nextInt(8) == 0 ? random.nextInt(13) - 1 : told.making[breath];
            if (seen.size() < 8) {
                seen.add(new int[] {breath, verse});
                due("seen", x.seen(breath, verse), seen.size());
            } else {
                due("seen", x.seen(breath, verse), -4);
            }
        }
    }

    private void compare() {
        List<PoemModel.Verse> verses = PoemModel.parse(texts[0].toString());
        List<PoemModel.Verse> hards = PoemModel.parse(texts[1].toString());
        PoemModel told = new PoemModel(verses, rules());
        List<Long> digest = new ArrayList<>();
        int there = Integer.bitCount(settings[5] & (1 << verses.size()) - 1);
        int[] counts = {verses.size(), hards.size(), texts[0].length(), texts[1].length(), seen.size(),
            java.util.Arrays.stream(told.make).sum(), settings[0], there};
        for (int what = 0; what < counts.length; what++) {
            both(digest, "count " + what, x.count(what), counts[what]);
        }
        both(digest, "fault 0", x.fault(0), PoemModel.fault(texts[0].toString()));
        both(digest, "fault 1", x.fault(1), PoemModel.fault(texts[1].toString()));
        for (int v = 0; v < verses.size(); v++) {
            compareVerse(digest, verses.get(v), told, v);
        }
        compareBreaths(digest, told);
        compareOdds(digest, verses, told);
        both(digest, "leads", x.leads(), PoemModel.leads(verses, rules(), seen));
        if (searches) {
            compareSearches(digest, verses, hards);
        }
    }

    private void both(List<Long> digest, String call, long got, long want) {
        due(call, got, want);
        digest.add(want);
    }

    private void compareVerse(List<Long> digest, PoemModel.Verse verse, PoemModel told, int v) {
        int[] figures = {verse.make(), verse.say(), verse.knot(), "pclr".indexOf(verse.kind()), told.make[v], told.knot[v]};
        for (int what = 0; what < figures.length; what++) {
            both(digest, "verse " + v + " " + what, x.verse(v, what), figures[what]);
        }
        int[] times = {told.begins[v], told.said[v], told.understood[v], told.written[v], told.pause[v]};
        for (int what = 0; what < times.length; what++) {
            both(digest, "when " + v + " " + what, x.when(v, what), times[what]);
        }
        both(digest, "rest " + v, x.rest(v), told.begins[v] < 0 ? -3 : told.rest[v]);
    }

    private void compareBreaths(List<Long> digest, PoemModel told) {
        int[] sums = {told.howManyWritten(), told.lastWritten(), told.allPauses(), told.pensTaken};
        for (int what = 0; what < sums.length; what++) {
            both(digest, "poem " + what, x.poem(what), sums[what]);
        }
        both(digest, "judged", x.judged(), told.judged());
        for (int t = 0; t < 300; t++) {
            int[] does = {told.saying[t], told.making[t], told.inHand[t]};
            for (int what = 0; what < does.length; what++) {
                due("doing " + t + " " + what, x.doing(t, what), does[what]);
                if (t < 10) {
                    digest.add((long) does[what]);
                }
            }
        }
    }

    private void compareOdds(List<Long> digest, List<PoemModel.Verse> verses, PoemModel told) {
        long[] odds = told.odds();
        for (int what = 0; what < odds.length; what++) {
            both(digest, "odds " + what, x.odds(what), odds[what]);
        }
        for (int k = 0; k < 10; k++) {
            int seed = random.nextInt();
            due("drawn " + seed, x.drawn(seed), told.drawn(seed));
        }
        both(digest, "drawn 7", x.drawn(7), told.drawn(7));
        int best = 0, fewest = 99;
        for (int h = 0; h <= 10; h++) {
            int[] errors = PoemModel.errors(verses, settings[5], h);
            due("line " + h + " 0", x.line(h, 0), errors[0]);
            due("line " + h + " 1", x.line(h, 1), errors[1]);
            if (errors[0] + errors[1] < fewest) {
                fewest = errors[0] + errors[1];
                best = h;
            }
        }
        both(digest, "line NONE 0", x.line(-1, 0), best);
        both(digest, "line NONE 1", x.line(-1, 1), fewest);
        int[] atFive = PoemModel.errors(verses, settings[5], 5);
        both(digest, "line 5 0", x.line(5, 0), atFive[0]);
        both(digest, "line 5 1", x.line(5, 1), atFive[1]);
    }

    // The searches stand ahead of the odds in the digest.
    private void compareSearches(List<Long> digest, List<PoemModel.Verse> verses, List<PoemModel.Verse> hards) {
        List<Long> found = new ArrayList<>();
        int[] put = PoemModel.put(verses, hards, rules());
        for (int what = 0; what < 6; what++) {
            both(found, "put " + what, x.put(what), put[what]);
        }
        int[] order = PoemModel.order(verses, rules());
        for (int i = -2; i <= 6; i++) {
            due("order " + i, x.order(i), order[i + 2]);
            if (i <= 2) {
                found.add((long) order[i + 2]);
            }
        }
        both(found, "lead", x.lead(), PoemModel.lead(verses, rules()));
        digest.addAll(digest.size() - 10, found);
        long h = 17;
        for (long each : digest) {
            h = 31 * h + each;
        }
        due("digest", x.digest(), h);
    }
}
