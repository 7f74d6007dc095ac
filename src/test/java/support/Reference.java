import java.util.ArrayList;
import java.util.HashMap;
import java.util.LinkedHashMap;
import java.util.List;
import java.util.Map;
import java.util.TreeMap;
import java.util.TreeSet;

/**
 * A second program for the document's terms, slow and written in another manner: pixels as rows of
 * four parts, streams and words as texts. It is there to be compared with.
 */
final class Reference {
    /** A pixel's parts: alpha, red, green, blue. */
    static final int[] BLACK = {255, 0, 0, 0};

    /** Told when a stream is bad. */
    static final class Bad extends RuntimeException {
        private static final long serialVersionUID = 1L;
    }

    /** What a stream was read to, or what was written. */
    static final class Result {
        String picture;
        String had;
        String bits;
        int count;
    }

    private final String bits;
    private int at;
    private int cacheColours;
    private int copies;
    private int cachePixels;

    private Reference(String bits) {
        this.bits = bits;
    }

    // ---- reading

    static Result decode(String bits) {
        return new Reference(bits).decodeAll();
    }

    private static void require(boolean good) {
        if (!good) {
            throw new Bad();
        }
    }

    private int next() {
        require(at < bits.length());
        return bits.charAt(at++) - '0';
    }

    private int next(int k) {
        int value = 0;
        int weight = 1;
        for (int i = 0; i < k; i++) {
            value += weight * next();
            weight *= 2;
        }
        return value;
    }

    /** One transform as it was said. */
    private record Step(int kind, int width, List<int[]> data) {}

    private Result decodeAll() {
        require(next(8) == 47);
        int w = next(3) + 1;
        int h = next(3) + 1;
        int width = w;
        LinkedHashMap<Integer, Step> steps = new LinkedHashMap<>();
        while (next() == 1) {
            int kind = next(2);
            require(!steps.containsKey(kind));
            List<int[]> data = new ArrayList<>();
            int before = w;
            if (kind == 0 || kind == 1) {
                data = image(up(w, 4), up(h, 4));
            } else if (kind == 3) {
                int n = next(4) + 1;
                data = image(n, 1);
                for (int i = 1; i < n; i++) {
                    data.set(i, add(data.get(i), data.get(i - 1)));
                }
                w = up(w, perByte(n));
            }
            steps.put(kind, new Step(kind, before, data));
        }
        List<int[]> pixels = image(w, h);
        List<Step> backwards = new ArrayList<>(steps.values());
        java.util.Collections.reverse(backwards);
        for (Step step : backwards) {
            pixels = undo(step, pixels, h);
        }
        Result result = new Result();
        result.picture = pictureText(width, h, pixels);
        StringBuilder had = new StringBuilder();
        for (int kind = 0; kind < 4; kind++) {
            had.append(steps.containsKey(kind) ? 1 : 0).append(' ');
        }
        result.had = had + "" + cacheColours + " " + copies + " " + cachePixels + " ";
        result.count = at;
        return result;
    }

    static String pictureText(int w, int h, List<int[]> pixels) {
        StringBuilder text = new StringBuilder(w + "x" + h);
        for (int[] p : pixels) {
            text.append(' ').append(Integer.toHexString(join(p)));
        }
        return text.toString();
    }

    private static int up(int a, int b) {
        return a % b == 0 ? a / b : a / b + 1;
    }

    private static int perByte(int n) {
        return n < 3 ? 8 : n < 5 ? 4 : 2;
    }

    static int join(int[] p) {
        return p[0] * (1 << 24) + p[1] * (1 << 16) + p[2] * 256 + p[3];
    }

    static int[] split(int pixel) {
        return new int[] {pixel >>> 24, pixel >>> 16 & 255, pixel >>> 8 & 255, pixel & 255};
    }

    private static int[] add(int[] a, int[] b) {
        int[] c = new int[4];
        for (int i = 0; i < 4; i++) {
            c[i] = (a[i] + b[i]) % 256;
        }
        return c;
    }

    static int[] minus(int[] a, int[] b) {
        int[] c = new int[4];
        for (int i = 0; i < 4; i++) {
            c[i] = (a[i] - b[i] + 256) % 256;
        }
        return c;
    }

    private static int[] av(int[] a, int[] b) {
        int[] c = new int[4];
        for (int i = 0; i < 4; i++) {
            c[i] = (a[i] + b[i]) / 2;
        }
        return c;
    }

    private static List<int[]> undo(Step step, List<int[]> pixels, int h) {
        int w = step.width;
        List<int[]> made = new ArrayList<>();
        for (int y = 0; y < h; y++) {
            for (int x = 0; x < w; x++) {
                int[] block = step.kind < 2 ? step.data.get(y / 4 * up(w, 4) + x / 4) : null;
                if (step.kind == 3) {
                    int n = step.data.size();
                    int per = perByte(n);
                    int wide = 8 / per;
                    int green = pixels.get(y * up(w, per) + x / per)[2];
                    int number = green / (1 << wide * (x % per)) % (1 << wide);
                    made.add(number < n ? step.data.get(number) : new int[4]);
                    continue;
                }
                int[] p = pixels.get(y * w + x);
                if (step.kind == 0) {
                    made.add(add(p, foretold(made, x, y, w, block[2] % 16)));
                } else if (step.kind == 1) {
                    int red = Math.floorMod(p[1] + delta(block[3], p[2]), 256);
                    int blue = Math.floorMod(p[3] + delta(block[2], p[2]) + delta(block[1], red), 256);
                    made.add(new int[] {p[0], red, p[2], blue});
                } else {
                    made.add(new int[] {p[0], (p[1] + p[2]) % 256, p[2], (p[3] + p[2]) % 256});
                }
            }
        }
        return made;
    }

    private static int delta(int t, int c) {
        int signedT = t > 127 ? t - 256 : t;
        int signedC = c > 127 ? c - 256 : c;
        return Math.floorDiv(signedT * signedC, 32);
    }

    private static int[] foretold(List<int[]> p, int x, int y, int w, int mode) {
        if (x == 0 && y == 0) {
            return BLACK;
        }
        if (y == 0) {
            return p.get(x - 1);
        }
        if (x == 0) {
            return p.get((y - 1) * w);
        }
        int[] l = p.get(y * w + x - 1);
        int[] t = p.get((y - 1) * w + x);
        int[] tl = p.get((y - 1) * w + x - 1);
        int[] tr = x + 1 < w ? p.get((y - 1) * w + x + 1) : p.get(y * w);
        List<int[]> simple = List.of(BLACK, l, t, tr, tl, av(av(l, tr), t), av(l, tl), av(l, t),
                av(tl, t), av(t, tr));
        if (mode < simple.size()) {
            return simple.get(mode);
        }
        if (mode == 10) {
            return av(av(l, tl), av(t, tr));
        }
        if (mode > 13) {
            return BLACK;
        }
        int[] made = new int[4];
        int toL = 0;
        int toT = 0;
        for (int i = 0; i < 4; i++) {
            int sum = l[i] + t[i] - tl[i];
            toL += Math.abs(sum - l[i]);
            toT += Math.abs(sum - t[i]);
            int a = (l[i] + t[i]) / 2;
            int half = a >= tl[i] ? (a - tl[i]) / 2 : -((tl[i] - a) / 2);
            made[i] = Math.min(255, Math.max(0, mode == 12 ? sum : a + half));
        }
        return mode > 11 ? made : toL < toT ? l : t;
    }

    private List<int[]> image(int w, int h) {
        copies = 0;
        cachePixels = 0;
        int cacheBits = next() == 1 ? next(2) + 1 : 0;
        cacheColours = cacheBits == 0 ? 0 : 1 << cacheBits;
        int[] cache = new int[cacheColours];
        List<Map<String, Integer>> codes = new ArrayList<>();
        for (int m : new int[] {280 + cacheColours, 256, 256, 256, 40}) {
            codes.add(code(m));
        }
        List<int[]> pixels = new ArrayList<>();
        while (pixels.size() < w * h) {
            int s = symbol(codes.get(0));
            int from = pixels.size();
            if (s < 256) {
                int red = symbol(codes.get(1));
                int blue = symbol(codes.get(2));
                int alpha = symbol(codes.get(3));
                pixels.add(new int[] {alpha, red, s, blue});
            } else if (s < 280) {
                int length = prefixed(s - 256);
                int distance = distance(prefixed(symbol(codes.get(4))), w);
                for (int i = 0; i < length; i++) {
                    require(pixels.size() - distance >= 0 && pixels.size() < w * h);
                    pixels.add(pixels.get(pixels.size() - distance));
                }
                copies++;
            } else {
                pixels.add(split(cache[s - 280]));
                cachePixels++;
            }
            for (int i = from; i < pixels.size() && cacheBits > 0; i++) {
                cache[hash(join(pixels.get(i)), cacheBits)] = join(pixels.get(i));
            }
        }
        return pixels;
    }

    private static int hash(int pixel, int cacheBits) {
        long product = 0x1E35A7BDL * (pixel & 0xFFFFFFFFL) % (1L << 32);
        return (int) (product / (1L << 32 - cacheBits));
    }

    private int prefixed(int p) {
        if (p < 4) {
            return p + 1;
        }
        int e = p / 2 - 1;
        return (2 + p % 2) * (1 << e) + next(e) + 1;
    }

    private static int distance(int k, int w) {
        int[][] near = {{0, 1}, {1, 0}, {1, 1}, {-1, 1}, {0, 2}, {2, 0}, {1, 2}, {-1, 2}};
        if (k > 8) {
            return k - 8;
        }
        int d = near[k - 1][0] + near[k - 1][1] * w;
        return d < 1 ? 1 : d;
    }

    private int symbol(Map<String, Integer> words) {
        String word = "";
        while (!words.containsKey(word)) {
            word += next();
        }
        return words.get(word);
    }

    private Map<String, Integer> code(int m) {
        int[] lengths = new int[m];
        if (next() == 1) {
            int n = next() + 1;
            int first = next(next() == 1 ? 8 : 1);
            require(first < m);
            lengths[first] = 1;
            if (n == 2) {
                int second = next(8);
                require(second < m && second != first);
                lengths[second] = 1;
            }
            return words(lengths);
        }
        int q = next(4);
        int[] order = {17, 18, 0, 1, 2, 3, 4, 5, 16, 6, 7, 8, 9, 10, 11, 12, 13, 14, 15};
        int[] smallLengths = new int[19];
        for (int i = 0; i < q + 4; i++) {
            smallLengths[order[i]] = next(3);
        }
        Map<String, Integer> small = words(smallLengths);
        List<Integer> said = new ArrayList<>();
        int latest = 8;
        while (said.size() < m) {
            int t = symbol(small);
            int value = t == 16 ? latest : t > 16 ? 0 : t;
            int times = t < 16 ? 1 : t == 16 ? 3 + next(2) : t == 17 ? 3 + next(3) : 11 + next(7);
            for (int i = 0; i < times; i++) {
                said.add(value);
            }
            if (value != 0) {
                latest = value;
            }
        }
        require(said.size() == m);
        for (int i = 0; i < m; i++) {
            lengths[i] = said.get(i);
        }
        return words(lengths);
    }

    /** Words to symbols; bad unless they are just enough. */
    static Map<String, Integer> words(int[] lengths) {
        TreeMap<Integer, List<Integer>> byLength = new TreeMap<>();
        double share = 0;
        int used = 0;
        for (int s = 0; s < lengths.length; s++) {
            if (lengths[s] > 0) {
                byLength.computeIfAbsent(lengths[s], k -> new ArrayList<>()).add(s);
                share += 1.0 / (1 << lengths[s]);
                used++;
            }
        }
        if (used == 1) {
            return Map.of("", byLength.firstEntry().getValue().get(0));
        }
        require(share == 1);
        Map<String, Integer> words = new HashMap<>();
        String word = null;
        for (int length : byLength.keySet()) {
            for (int s : byLength.get(length)) {
                word = word == null ? "" : plusOne(word);
                while (word.length() < length) {
                    word += "0";
                }
                words.put(word, s);
            }
        }
        return words;
    }

    private static String plusOne(String word) {
        int zero = word.lastIndexOf('0');
        return word.substring(0, zero) + "1" + "0".repeat(word.length() - zero - 1);
    }

    // ---- writing

    /** One thing said in an image: a symbol of a code, and bits behind it. */
    private record Said(int code, int symbol, String behind) {}

    static String number(int value, int k) {
        String text = "";
        for (int i = 0; i < k; i++) {
            text += (value >> i) % 2;
        }
        return text;
    }

    /** Null when a palette is asked for and there are too many colours. */
    static Result encode(int w, int h, int[] picture, boolean palette, boolean green, int mode,
            int cacheBits) {
        List<int[]> pixels = new ArrayList<>();
        for (int p : picture) {
            pixels.add(split(p));
        }
        String out = number(47, 8) + number(w - 1, 3) + number(h - 1, 3);
        if (palette) {
            TreeSet<Long> all = new TreeSet<>();
            for (int p : picture) {
                all.add(p & 0xFFFFFFFFL);
            }
            if (all.size() > 16) {
                return null;
            }
            List<Long> colours = new ArrayList<>(all);
            List<int[]> said = new ArrayList<>();
            for (int i = 0; i < colours.size(); i++) {
                int[] c = split(colours.get(i).intValue());
                said.add(i == 0 ? c : minus(c, split(colours.get(i - 1).intValue())));
            }
            out += "1" + "11" + number(colours.size() - 1, 4) + new Reference("").imageText(said, 0);
            int per = perByte(colours.size());
            List<int[]> packed = new ArrayList<>();
            for (int y = 0; y < h; y++) {
                for (int x = 0; x < w; x += per) {
                    int value = 0;
                    for (int i = 0; i < per && x + i < w; i++) {
                        int number = colours.indexOf(picture[y * w + x + i] & 0xFFFFFFFFL);
                        value += number << 8 / per * i;
                    }
                    packed.add(new int[] {255, 0, value, 0});
                }
            }
            pixels = packed;
            w = up(w, per);
        }
        if (green) {
            out += "1" + "01";
            pixels.replaceAll(p -> minus(p, new int[] {0, p[2], 0, p[2]}));
        }
        if (mode >= 0) {
            List<int[]> modes = new ArrayList<>();
            for (int i = 0; i < up(w, 4) * up(h, 4); i++) {
                modes.add(new int[] {255, 0, mode, 0});
            }
            out += "1" + "00" + new Reference("").imageText(modes, 0);
            List<int[]> rest = new ArrayList<>();
            for (int i = 0; i < pixels.size(); i++) {
                rest.add(minus(pixels.get(i), foretold(pixels, i % w, i / w, w, mode)));
            }
            pixels = rest;
        }
        Reference main = new Reference("");
        out += "0" + main.imageText(pixels, cacheBits);
        Result result = new Result();
        result.bits = out;
        result.count = out.length();
        result.had = (mode >= 0 ? 1 : 0) + " 0 " + (green ? 1 : 0) + " " + (palette ? 1 : 0) + " "
                + (cacheBits == 0 ? 0 : 1 << cacheBits) + " " + main.copies + " " + main.cachePixels
                + " ";
        return result;
    }

    private String imageText(List<int[]> parts, int cacheBits) {
        int[] p = parts.stream().mapToInt(Reference::join).toArray();
        int[] cache = new int[cacheBits == 0 ? 0 : 1 << cacheBits];
        List<Said> all = new ArrayList<>();
        int at = 0;
        while (at < p.length) {
            int best = 0;
            int far = 0;
            for (int d = at; d >= 1; d--) {
                int length = 0;
                while (at + length < p.length && p[at + length] == p[at + length - d]) {
                    length++;
                }
                if (length >= best) {
                    best = length;
                    far = d;
                }
            }
            int step = 1;
            if (best >= 3) {
                all.add(prefix(0, 256, best));
                all.add(prefix(4, 0, far + 8));
                copies++;
                step = best;
            } else if (cacheBits > 0 && cache[hash(p[at], cacheBits)] == p[at]) {
                all.add(new Said(0, 280 + hash(p[at], cacheBits), ""));
                cachePixels++;
            } else {
                int[] four = parts.get(at);
                all.add(new Said(0, four[2], ""));
                all.add(new Said(1, four[1], ""));
                all.add(new Said(2, four[3], ""));
                all.add(new Said(3, four[0], ""));
            }
            for (int i = at; i < at + step && cacheBits > 0; i++) {
                cache[hash(p[i], cacheBits)] = p[i];
            }
            at += step;
        }
        String out = cacheBits == 0 ? "0" : "1" + number(cacheBits - 1, 2);
        int[] sizes = {280 + cache.length, 256, 256, 256, 40};
        List<Map<Integer, String>> words = new ArrayList<>();
        for (int c = 0; c < 5; c++) {
            TreeSet<Integer> used = new TreeSet<>();
            for (Said one : all) {
                if (one.code == c) {
                    used.add(one.symbol);
                }
            }
            if (used.isEmpty()) {
                used.add(0);
            }
            words.add(turned(words(even(used, sizes[c]))));
            out += codeText(used, sizes[c]);
        }
        for (Said one : all) {
            out += words.get(one.code).get(one.symbol) + one.behind;
        }
        return out;
    }

    private static Map<Integer, String> turned(Map<String, Integer> words) {
        Map<Integer, String> turned = new HashMap<>();
        words.forEach((word, symbol) -> turned.put(symbol, word));
        return turned;
    }

    private static Said prefix(int code, int offset, int number) {
        if (number <= 4) {
            return new Said(code, offset + number - 1, "");
        }
        for (int p = 4; p < 40; p++) {
            int e = p / 2 - 1;
            int rest = number - 1 - (2 + p % 2) * (1 << e);
            if (rest >= 0 && rest < 1 << e) {
                return new Said(code, offset + p, number(rest, e));
            }
        }
        throw new IllegalStateException();
    }

    static int[] even(TreeSet<Integer> used, int m) {
        int n = used.size();
        int b = 0;
        while (Math.pow(2, b) < n) {
            b++;
        }
        int shorter = (1 << b) - n;
        int[] lengths = new int[m];
        int i = 0;
        for (int s : used) {
            lengths[s] = n == 1 ? 1 : i < shorter ? b - 1 : b;
            i++;
        }
        return lengths;
    }

    private static String codeText(TreeSet<Integer> used, int m) {
        if (used.size() <= 2 && used.last() < 256) {
            String text = "1" + (used.size() - 1) + "1";
            for (int s : used) {
                text += number(s, 8);
            }
            return text;
        }
        int[] lengths = even(used, m);
        List<int[]> said = new ArrayList<>();
        for (int s = 0; s < m;) {
            int run = 0;
            while (s + run < m && lengths[s + run] == 0) {
                run++;
            }
            s += run;
            while (run >= 11) {
                int many = Math.min(138, run);
                said.add(new int[] {18, many - 11, 7});
                run -= many;
            }
            while (run >= 3) {
                int many = Math.min(10, run);
                said.add(new int[] {17, many - 3, 3});
                run -= many;
            }
            while (run >= 1) {
                said.add(new int[] {0, 0, 0});
                run--;
            }
            if (s < m) {
                said.add(new int[] {lengths[s], 0, 0});
                s++;
            }
        }
        TreeSet<Integer> usedSmall = new TreeSet<>();
        said.forEach(one -> usedSmall.add(one[0]));
        int[] smallLengths = even(usedSmall, 19);
        Map<Integer, String> small = turned(words(smallLengths));
        String text = "0" + "1111";
        for (int s : new int[] {17, 18, 0, 1, 2, 3, 4, 5, 16, 6, 7, 8, 9, 10, 11, 12, 13, 14, 15}) {
            text += number(smallLengths[s], 3);
        }
        for (int[] one : said) {
            text += small.get(one[0]) + number(one[1], one[2]);
        }
        return text;
    }
}
