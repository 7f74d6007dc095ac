import java.util.ArrayList;
import java.util.Collections;
import java.util.List;
import java.util.Map;
import java.util.Random;
import java.util.TreeSet;

/** Makes streams of all that the document lets a stream have, good ones but for a few. */
final class RandomStream {
    private static final int[] ORDER = {
        17, 18, 0, 1, 2, 3, 4, 5, 16, 6, 7, 8, 9, 10, 11, 12, 13, 14, 15
    };

    private final Random random;
    private final StringBuilder out = new StringBuilder();

    private RandomStream(Random random) {
        this.random = random;
    }

    static String make(Random random) {
        RandomStream maker = new RandomStream(random);
        maker.all();
        return maker.out.toString();
    }

    private int pick(int bound) {
        return random.nextInt(bound);
    }

    private void number(int value, int k) {
        out.append(Reference.number(value, k));
    }

    private void all() {
        int w = 1 + pick(8);
        int h = 1 + pick(8);
        number(47, 8);
        number(w - 1, 3);
        number(h - 1, 3);
        List<Integer> kinds = new ArrayList<>(List.of(0, 1, 2, 3));
        Collections.shuffle(kinds, random);
        for (int kind : kinds.subList(0, pick(5))) {
            number(1, 1);
            number(kind, 2);
            if (kind < 2) {
                image((w + 3) / 4, (h + 3) / 4);
            } else if (kind == 3) {
                int n = 1 + pick(16);
                number(n - 1, 4);
                image(n, 1);
                int per = n < 3 ? 8 : n < 5 ? 4 : 2;
                w = (w + per - 1) / per;
            }
        }
        number(0, 1);
        image(w, h);
    }

    private record Said(int code, int symbol, String behind) {}

    private void image(int w, int h) {
        int cacheBits = pick(2) == 0 ? 0 : 1 + pick(4);
        int colours = cacheBits == 0 ? 0 : 1 << cacheBits;
        int spread = 1 << pick(9);
        List<Said> all = new ArrayList<>();
        int done = 0;
        while (done < w * h) {
            int way = pick(3);
            if (way == 0 && done > 0) {
                int length = 1 + pick(Math.min(w * h - done, 1 + pick(64)));
                prefix(all, 0, 256, length);
                prefix(all, 4, 0, distanceNumber(w, done));
                done += length;
            } else if (way == 1 && cacheBits > 0) {
                all.add(new Said(0, 280 + pick(colours), ""));
                done++;
            } else {
                all.add(new Said(0, pick(spread), ""));
                all.add(new Said(1, pick(spread), ""));
                all.add(new Said(2, pick(spread), ""));
                all.add(new Said(3, 255 - pick(spread), ""));
                done++;
            }
        }
        number(cacheBits == 0 ? 0 : 1, 1);
        if (cacheBits > 0) {
            number(cacheBits - 1, 2);
        }
        int[] sizes = {280 + colours, 256, 256, 256, 40};
        List<Map<String, Integer>> codes = new ArrayList<>();
        for (int c = 0; c < 5; c++) {
            TreeSet<Integer> used = new TreeSet<>();
            for (Said one : all) {
                if (one.code == c) {
                    used.add(one.symbol);
                }
            }
            for (int extra = pick(3); extra > 0 || used.isEmpty(); extra--) {
                used.add(pick(sizes[c]));
            }
            codes.add(code(used, sizes[c]));
        }
        for (Said one : all) {
            out.append(wordOf(codes.get(one.code), one.symbol)).append(one.behind);
        }
    }

    /** A number for a distance that reaches no further back than there are pixels; mostly. */
    private int distanceNumber(int w, int done) {
        int[][] near = {{0, 1}, {1, 0}, {1, 1}, {-1, 1}, {0, 2}, {2, 0}, {1, 2}, {-1, 2}};
        for (int i = 0; i < 6; i++) {
            int k = 1 + pick(8);
            if (Math.max(1, near[k - 1][0] + near[k - 1][1] * w) <= done || pick(200) == 0) {
                return k;
            }
        }
        return 8 + 1 + pick(done);
    }

    private static String wordOf(Map<String, Integer> words, int symbol) {
        for (Map.Entry<String, Integer> entry : words.entrySet()) {
            if (entry.getValue() == symbol) {
                return entry.getKey();
            }
        }
        throw new IllegalStateException();
    }

    private static void prefix(List<Said> all, int code, int offset, int number) {
        for (int p = 0; p < 40; p++) {
            int e = p < 4 ? 0 : p / 2 - 1;
            int least = p < 4 ? p + 1 : (2 + p % 2) * (1 << e) + 1;
            if (number >= least && number < least + (1 << e)) {
                all.add(new Said(code, offset + p, Reference.number(number - least, e)));
                return;
            }
        }
    }

    /** Says a code for these symbols; answers its words. */
    private Map<String, Integer> code(TreeSet<Integer> used, int m) {
        int[] lengths = new int[m];
        if (used.size() <= 2 && used.last() < 256 && pick(4) > 0) {
            few(used);
            for (int s : used) {
                lengths[s] = 1;
            }
            return Reference.words(lengths);
        }
        List<Integer> depths = depths(used.size(), 15);
        int i = 0;
        for (int s : used) {
            lengths[s] = depths.get(i++);
        }
        number(0, 1);
        lengths(lengths);
        return Reference.words(lengths);
    }

    private void few(TreeSet<Integer> used) {
        List<Integer> symbols = new ArrayList<>(used);
        Collections.shuffle(symbols, random);
        number(1, 1);
        number(symbols.size() - 1, 1);
        boolean tiny = symbols.get(0) < 2 && pick(2) == 0;
        number(tiny ? 0 : 1, 1);
        number(symbols.get(0), tiny ? 1 : 8);
        if (symbols.size() == 2) {
            number(symbols.get(1), 8);
        }
    }

    /** Lengths of so many words that just use up all words. */
    private List<Integer> depths(int count, int most) {
        List<Integer> depths = new ArrayList<>(List.of(count == 1 ? 1 + pick(most) : 0));
        boolean steep = pick(2) == 0;
        while (depths.size() < count) {
            int leaf = steep ? Math.max(0, depths.size() - 1 - pick(2)) : pick(depths.size());
            if (depths.get(leaf) >= most) {
                leaf = depths.indexOf(Collections.min(depths));
            }
            int depth = depths.remove(leaf) + 1;
            depths.add(depth);
            depths.add(depth);
        }
        Collections.shuffle(depths, random);
        return depths;
    }

    private void lengths(int[] lengths) {
        List<int[]> said = runs(lengths);
        TreeSet<Integer> used = new TreeSet<>();
        for (int[] one : said) {
            used.add(one[0]);
        }
        if (pick(3) == 0) {
            used.add(pick(19));
        }
        List<Integer> depths = depths(used.size(), 7);
        int[] small = new int[19];
        int i = 0;
        for (int s : used) {
            small[s] = depths.get(i++);
        }
        int q = 15;
        while (q > 0 && small[ORDER[q + 3]] == 0 && pick(8) > 0) {
            q--;
        }
        number(q, 4);
        for (int k = 0; k < q + 4; k++) {
            number(small[ORDER[k]], 3);
        }
        Map<String, Integer> words = Reference.words(small);
        for (int[] one : said) {
            out.append(wordOf(words, one[0]));
            number(one[1], one[2]);
        }
    }

    /** Lengths by themselves or by one of the three kinds of runs, as chance will have it. */
    private List<int[]> runs(int[] lengths) {
        List<int[]> said = new ArrayList<>();
        int latest = 8;
        for (int s = 0; s < lengths.length;) {
            int run = 1;
            while (s + run < lengths.length && lengths[s + run] == lengths[s]) {
                run++;
            }
            int step = 1;
            if (lengths[s] == latest && run >= 3 && pick(3) > 0) {
                step = 3 + pick(Math.min(4, run - 2));
                said.add(new int[] {16, step - 3, 2});
            } else if (lengths[s] == 0 && run >= 11 && pick(10) > 0) {
                step = Math.min(run, 138) - pick(pick(Math.min(run, 138) - 10) + 1);
                said.add(new int[] {18, step - 11, 7});
            } else if (lengths[s] == 0 && run >= 3 && pick(5) > 0) {
                step = 3 + pick(Math.min(8, run - 2));
                said.add(new int[] {17, step - 3, 3});
            } else {
                said.add(new int[] {lengths[s], 0, 0});
            }
            latest = lengths[s] > 0 ? lengths[s] : latest;
            s += step;
        }
        return said;
    }
}
