import java.util.ArrayList;
import java.util.Arrays;
import java.util.HashMap;
import java.util.HashSet;
import java.util.List;
import java.util.Map;
import java.util.Set;

/** The document once more, as slow and as plain as can be: what WordsFirst is held against by RandomRunsTest. */
final class Oracle {
    static final int UNKNOWN = -1, OUTSIDE = -2, STATE = -3, FULL = -4, NO = -5, NONE = -6;
    static final long LOST = -1000000000000000000L;

    /** Everything but the PAD. */
    static final class World {
        List<String> letters = new ArrayList<>();
        List<String> digits = new ArrayList<>();
        List<Integer> often = new ArrayList<>();
        int[] signs = new int[4];
        int[] wholes = new int[4];
        int[][] mixed = {null, null, null, null};
        List<int[]> answers = new ArrayList<>();

        World copy() {
            World w = new World();
            w.letters = new ArrayList<>(letters);
            w.digits = new ArrayList<>(digits);
            w.often = new ArrayList<>(often);
            w.signs = signs.clone();
            w.wholes = wholes.clone();
            w.mixed = mixed.clone();
            w.answers = new ArrayList<>(answers);
            return w;
        }
    }

    private String pad = "";
    private World now = new World();
    private final World[] images = new World[2];

    private int words() {
        return now.letters.size();
    }

    private boolean noWord(int w) {
        return w < 0 || w >= words();
    }

    private static boolean noChild(int c) {
        return c < 0 || c > 3;
    }

    private static boolean noSign(int s) {
        return s < 0 || s > 9;
    }

    private int sign(int w, int i) {
        return now.letters.get(w).charAt(i) - 'a';
    }

    private int bitsOf(int w) {
        int b = 0;
        for (char c : now.letters.get(w).toCharArray()) b |= 1 << (c - 'a');
        return b;
    }

    private int all() {
        return now.often.stream().mapToInt(i -> i).sum();
    }

    int say(int s) {
        if (s < 33 || s > 126) return OUTSIDE;
        if (pad.length() == 14) return FULL;
        pad += (char) s;
        return pad.length();
    }

    int wipe() {
        int n = pad.length();
        pad = "";
        return n;
    }

    private static final Set<String> BEGINNINGS = new HashSet<>();

    private static String shape(String text) {
        StringBuilder b = new StringBuilder();
        for (char c : text.toCharArray()) b.append(c >= 'a' && c <= 'j' ? 'L' : c >= '0' && c <= '9' ? 'D' : c == '=' ? '=' : '?');
        return b.toString();
    }

    private static boolean isWhole(String shape) {
        for (int n = 1; n <= 5; n++) if (shape.equals("L".repeat(n) + "=" + "D".repeat(n))) return true;
        return false;
    }

    int fault() {
        if (BEGINNINGS.isEmpty()) {
            for (int n = 1; n <= 5; n++) {
                String whole = "L".repeat(n) + "=" + "D".repeat(n);
                for (int i = 0; i <= whole.length(); i++) BEGINNINGS.add(whole.substring(0, i));
            }
        }
        for (int i = 0; i < pad.length(); i++) {
            if (!BEGINNINGS.contains(shape(pad.substring(0, i + 1)))) return i;
        }
        return isWhole(shape(pad)) ? NONE : pad.length();
    }

    int word(int often) {
        if (often < 1 || often > 999) return OUTSIDE;
        if (fault() != NONE) return NO;
        String[] two = pad.split("=");
        if (now.letters.contains(two[0])) return NO;
        if (words() == 12) return FULL;
        now.letters.add(two[0]);
        now.digits.add(two[1]);
        now.often.add(often);
        pad = "";
        return words() - 1;
    }

    int about(int w, int what) {
        if (noWord(w)) return UNKNOWN;
        int n = now.letters.get(w).length();
        if (what == 0) return n;
        if (what == 1) return now.often.get(w);
        if (what == 2) return bitsOf(w);
        if (what == 3) return regular(w) ? 1 : 0;
        if (what >= 10 && what <= 14) return what - 10 < n ? sign(w, what - 10) : NONE;
        if (what >= 20 && what <= 24) return what - 20 < n ? now.digits.get(w).charAt(what - 20) - '0' : NONE;
        return OUTSIDE;
    }

    int often(int w, int v) {
        if (noWord(w)) return UNKNOWN;
        if (v < 1 || v > 999) return OUTSIDE;
        return now.often.set(w, v);
    }

    private int places(int s, int sound) {
        int n = 0;
        for (int w = 0; w < words(); w++) {
            for (int i = 0; i < now.letters.get(w).length(); i++) {
                boolean here = s < 0 || sign(w, i) == s;
                if (here && (sound < 0 || now.digits.get(w).charAt(i) - '0' == sound)) n += now.often.get(w);
            }
        }
        return n;
    }

    private static long fraction(int up, int low, int part) {
        if (up == 0) return part == 0 ? 0 : 1;
        for (int d = Math.min(up, low); d > 1; d--) {
            if (up % d == 0 && low % d == 0) {
                return (part == 0 ? up : low) / d;
            }
        }
        return part == 0 ? up : low;
    }

    long has(int s, int sound, int part) {
        if (noSign(s)) return LOST - 1;
        if (sound < 0 || sound > 9 || part < 0 || part > 1) return LOST - 2;
        return fraction(places(s, sound), places(s, -1), part);
    }

    int common(int s) {
        if (noSign(s)) return UNKNOWN;
        int best = NONE;
        for (int sound = 9; sound >= 0; sound--) {
            int n = places(s, sound);
            if (n > 0 && (best == NONE || n >= places(s, best))) best = sound;
        }
        return best;
    }

    private boolean regular(int w) {
        for (int i = 0; i < now.letters.get(w).length(); i++) {
            if (common(sign(w, i)) != now.digits.get(w).charAt(i) - '0') return false;
        }
        return true;
    }

    long ruled(int part) {
        if (part < 0 || part > 1) return LOST - 2;
        int up = 0;
        for (int s = 0; s < 10; s++) if (common(s) != NONE) up += places(s, common(s));
        return fraction(up, places(-1, -1), part);
    }

    private boolean noWordSet(int v) {
        return v < 0 || v >= 1 << words();
    }

    int knows(int c, int what, int v) {
        if (noChild(c)) return UNKNOWN;
        if (what != 0 && what != 1) return OUTSIDE;
        if (what == 0 && (v < 0 || v > 1023)) return OUTSIDE;
        if (what == 1 && noWordSet(v)) return OUTSIDE;
        int was = what == 0 ? now.signs[c] : now.wholes[c];
        if (what == 0) now.signs[c] = v;
        else now.wholes[c] = v;
        return was;
    }

    private int mixed(int c) {
        return now.mixed[c] == null ? NONE : 10 * now.mixed[c][0] + now.mixed[c][1];
    }

    int mix(int c, int s, int o) {
        if (noChild(c)) return UNKNOWN;
        int was = mixed(c);
        if (s == -1 && o == -1) {
            now.mixed[c] = null;
            return was;
        }
        if (noSign(s) || noSign(o) || s == o) return UNKNOWN;
        int[] two = {s, o};
        Arrays.sort(two);
        now.mixed[c] = two;
        return was;
    }

    /** How, as which: of a child that knows these signs and wholes. */
    private int[] reads(int w, int signs, int wholes, int[] mixed) {
        if ((wholes & 1 << w) != 0) return new int[] {0, w};
        if ((bitsOf(w) & signs) == bitsOf(w)) return new int[] {1, sounded(w, mixed)};
        if ((signs & 1 << sign(w, 0)) != 0) {
            int best = NONE;
            for (int v = 0; v < words(); v++) {
                if (sign(v, 0) == sign(w, 0) && (best == NONE || now.often.get(v) > now.often.get(best))) best = v;
            }
            return new int[] {2, best};
        }
        return new int[] {3, NONE};
    }

    private int sounded(int w, int[] mixed) {
        String row = "";
        for (int i = 0; i < now.letters.get(w).length(); i++) {
            int s = sign(w, i);
            if (mixed != null) s = s == mixed[0] ? mixed[1] : s == mixed[1] ? mixed[0] : s;
            if (common(s) == NONE) return NONE;
            row += common(s);
        }
        List<Integer> fit = new ArrayList<>();
        for (int v = 0; v < words(); v++) if (now.digits.get(v).equals(row)) fit.add(v);
        return fit.isEmpty() ? NONE : fit.contains(w) ? w : fit.get(0);
    }

    int read(int c, int w, int what) {
        if (noChild(c) || noWord(w)) return UNKNOWN;
        if (what != 0 && what != 1) return OUTSIDE;
        return reads(w, now.signs[c], now.wholes[c], now.mixed[c])[what];
    }

    private boolean canRead(int c, int w) {
        return read(c, w, 1) == w;
    }

    private int shareOf(int signs, int wholes, int[] mixed) {
        int sum = 0;
        for (int w = 0; w < words(); w++) if (reads(w, signs, wholes, mixed)[1] == w) sum += now.often.get(w);
        return sum;
    }

    int share(int c) {
        return noChild(c) ? UNKNOWN : shareOf(now.signs[c], now.wholes[c], now.mixed[c]);
    }

    int gives(int signs, int wholes) {
        if (signs < 0 || signs > 1023 || noWordSet(wholes)) return OUTSIDE;
        int sum = 0;
        for (int w = 0; w < words(); w++) {
            boolean given = regular(w) && (bitsOf(w) & signs) == bitsOf(w);
            if (given || (wholes & 1 << w) != 0) sum += now.often.get(w);
        }
        return sum;
    }

    private String orderKey = null;
    private int orderBest;
    private int[] orderRow;

    /** Every one of the 3,628,800 orders. */
    private void tryOrders(int[] give, int[] row, int i, int set, int sum) {
        if (i == 10) {
            if (sum > orderBest) {
                orderBest = sum;
                orderRow = row.clone();
            }
            return;
        }
        for (int s = 0; s < 10; s++) {
            if ((set & 1 << s) == 0) {
                row[i] = s;
                tryOrders(give, row, i + 1, set | 1 << s, sum + give[set | 1 << s]);
            }
        }
    }

    int order(int i) {
        if (i < -1 || i > 9) return NONE;
        String key = now.letters + " " + now.digits + " " + now.often;
        if (!key.equals(orderKey)) {
            orderKey = key;
            orderBest = -1;
            int[] give = new int[1024];
            for (int set = 0; set < 1024; set++) give[set] = gives(set, 0);
            tryOrders(give, new int[10], 0, 0, 0);
        }
        return i == -1 ? orderBest : orderRow[i];
    }

    int most(int k, int w, int what) {
        if (k < 0 || k > 10 || w < 0 || w > words() || what < 0 || what > 2) return OUTSIDE;
        int best = -1;
        int signs = 0;
        for (int set = 0; set < 1024; set++) {
            if (Integer.bitCount(set) != k) continue;
            int got = bestWithWholes(set, w);
            if (got > best) {
                best = got;
                signs = set;
            }
        }
        if (what == 0) return best;
        if (what == 1) return signs;
        int wholes = 0;
        for (int j = 0; j < w; j++) {
            int next = -1;
            for (int v = 0; v < words(); v++) {
                boolean given = regular(v) && (bitsOf(v) & signs) == bitsOf(v);
                if (given || (wholes & 1 << v) != 0) continue;
                if (next < 0 || now.often.get(v) > now.often.get(next)) next = v;
            }
            if (next >= 0) wholes |= 1 << next;
        }
        return wholes;
    }

    private int bestWithWholes(int signs, int w) {
        int sum = 0;
        List<Integer> others = new ArrayList<>();
        for (int v = 0; v < words(); v++) {
            if (regular(v) && (bitsOf(v) & signs) == bitsOf(v)) sum += now.often.get(v);
            else others.add(-now.often.get(v));
        }
        others.sort(null);
        for (int j = 0; j < w && j < others.size(); j++) sum -= others.get(j);
        return sum;
    }

    private static boolean better(List<Integer> a, List<Integer> b) {
        if (a.size() != b.size()) return a.size() > b.size();
        for (int i = 0; i < a.size(); i++) if (!a.get(i).equals(b.get(i))) return a.get(i) < b.get(i);
        return false;
    }

    /** The best row behind a last word (-1: none yet) out of the free ones. */
    private List<Integer> rowBehind(int last, int free, Map<Integer, List<Integer>> memo) {
        int key = free * 16 + last + 1;
        if (memo.containsKey(key)) return memo.get(key);
        List<Integer> best = new ArrayList<>();
        for (int w = 0; w < words(); w++) {
            if ((free & 1 << w) == 0) continue;
            if (last >= 0) {
                String ahead = now.letters.get(last);
                if (ahead.charAt(ahead.length() - 1) != now.letters.get(w).charAt(0)) continue;
            }
            List<Integer> row = new ArrayList<>();
            row.add(w);
            row.addAll(rowBehind(w, free & ~(1 << w), memo));
            if (better(row, best)) best = row;
        }
        memo.put(key, best);
        return best;
    }

    int tale(int c, int i) {
        if (noChild(c)) return UNKNOWN;
        int free = 0;
        for (int w = 0; w < words(); w++) if (canRead(c, w)) free |= 1 << w;
        List<Integer> row = rowBehind(-1, free, new HashMap<>());
        if (i == -1) return row.size();
        return i >= 0 && i < row.size() ? row.get(i) : NONE;
    }

    int answer(int w, boolean right) {
        if (noWord(w)) return UNKNOWN;
        if (now.answers.size() == 20) return FULL;
        now.answers.add(new int[] {w, right ? 1 : 0});
        return now.answers.size();
    }

    int clear() {
        int n = now.answers.size();
        now.answers.clear();
        return n;
    }

    private boolean[] regularRow() {
        boolean[] row = new boolean[words()];
        for (int w = 0; w < words(); w++) row[w] = regular(w);
        return row;
    }

    private List<Integer> mayBe() {
        boolean[] regular = regularRow();
        List<Integer> sets = new ArrayList<>();
        for (int set = 0; set < 1024; set++) {
            boolean ok = true;
            for (int[] a : now.answers) {
                boolean right = regular[a[0]] && (bitsOf(a[0]) & set) == 0;
                ok &= right == (a[1] == 1);
            }
            if (ok) sets.add(set);
        }
        return sets;
    }

    int may() {
        return mayBe().size();
    }

    long lacks(int s, int part) {
        if (noSign(s)) return LOST - 1;
        if (part < 0 || part > 1) return LOST - 2;
        List<Integer> sets = mayBe();
        if (sets.isEmpty()) return LOST - 5;
        int n = 0;
        for (int set : sets) if ((set & 1 << s) != 0) n++;
        return fraction(n, sets.size(), part);
    }

    int tells() {
        List<Integer> sets = mayBe();
        int best = NONE;
        int bestLesser = -1;
        for (int w = 0; w < words(); w++) {
            int right = 0;
            int wrong = 0;
            boolean regular = regular(w);
            for (int set : sets) {
                if (regular && (bitsOf(w) & set) == 0) right++;
                else wrong++;
            }
            if (Math.min(right, wrong) > bestLesser) {
                bestLesser = Math.min(right, wrong);
                best = w;
            }
        }
        return best;
    }

    /** How many rows of answers there can be by these words. */
    private int toldApart(int words, int signs) {
        Set<Integer> rows = new HashSet<>();
        rows.add(0);
        for (int s = 0; s < 10; s++) {
            if ((signs & 1 << s) == 0) continue;
            int wrong = 0;
            for (int w = 0; w < words(); w++) {
                if ((words & 1 << w) != 0 && (bitsOf(w) & 1 << s) != 0) wrong |= 1 << w;
            }
            rows.add(wrong);
        }
        return rows.size();
    }

    int test() {
        int regular = 0;
        int signs = 0;
        for (int w = 0; w < words(); w++) {
            if (regular(w)) {
                regular |= 1 << w;
                signs |= bitsOf(w);
            }
        }
        int due = toldApart(regular, signs);
        int best = regular;
        for (int set = regular; set >= 0; set--) {
            if ((set & ~regular) != 0 || Integer.bitCount(set) > Integer.bitCount(best)) continue;
            if (toldApart(set, signs) == due) best = set;
        }
        return best;
    }

    private int written(int sound) {
        int best = NONE;
        for (int s = 0; s < 10; s++) {
            if (places(s, sound) > 0 && (best == NONE || places(s, sound) > places(best, sound))) best = s;
        }
        return best;
    }

    private String respeltText(int w) {
        String text = "";
        for (char d : now.digits.get(w).toCharArray()) text += (char) ('a' + written(d - '0'));
        return text;
    }

    int respelt(int w, int place) {
        if (noWord(w)) return UNKNOWN;
        if (place < 0 || place > 4) return OUTSIDE;
        String text = respeltText(w);
        return place < text.length() ? text.charAt(place) - 'a' : NONE;
    }

    int price(int what) {
        if (what != 0 && what != 1) return OUTSIDE;
        if (what == 0) {
            int sum = 0;
            for (int w = 0; w < words(); w++) {
                String text = respeltText(w);
                for (int i = 0; i < text.length(); i++) {
                    if (text.charAt(i) != now.letters.get(w).charAt(i)) sum += now.often.get(w);
                }
            }
            return sum;
        }
        for (int a = 0; a < words(); a++) {
            for (int b = a + 1; b < words(); b++) {
                if (respeltText(a).equals(respeltText(b))) return 100 * a + b;
            }
        }
        return NONE;
    }

    private int[] lessonRow(int c) {
        int unknown = 10 - Integer.bitCount(now.signs[c]);
        int[] best = new int[13];
        Arrays.fill(best, -1);
        for (int more = 0; more < 1024; more++) {
            if ((more & now.signs[c]) != 0) continue;
            int got = shareFast(c, now.signs[c] | more);
            for (int n = 0; n < 13; n++) {
                if (Integer.bitCount(more) == Math.min(n, unknown)) best[n] = Math.max(best[n], got);
            }
        }
        return best;
    }

    private Map<Integer, Integer> soundedMemo;

    /** As shareOf, with what each word sounds like kept for the time of one call. */
    private int shareFast(int c, int signs) {
        int sum = 0;
        for (int w = 0; w < words(); w++) {
            int as;
            if ((now.wholes[c] & 1 << w) == 0 && (bitsOf(w) & signs) == bitsOf(w)) {
                Integer kept = soundedMemo.get(c * 16 + w);
                if (kept == null) {
                    kept = sounded(w, now.mixed[c]);
                    soundedMemo.put(c * 16 + w, kept);
                }
                as = kept;
            } else {
                as = reads(w, signs, now.wholes[c], now.mixed[c])[1];
            }
            if (as == w) sum += now.often.get(w);
        }
        return sum;
    }

    int lessons(int c, int n) {
        if (noChild(c)) return UNKNOWN;
        if (n < 0 || n > 12) return OUTSIDE;
        soundedMemo = new HashMap<>();
        return lessonRow(c)[n];
    }

    int shared(int n, int c) {
        if (c < -1 || c > 3) return UNKNOWN;
        if (n < 0 || n > 12) return OUTSIDE;
        soundedMemo = new HashMap<>();
        int[][] rows = {lessonRow(0), lessonRow(1), lessonRow(2), lessonRow(3)};
        int best = -1;
        int[] bestSplit = null;
        for (int code = 0; code < 13 * 13 * 13 * 13; code++) {
            int[] split = {code / 2197, code / 169 % 13, code / 13 % 13, code % 13};
            if (split[0] + split[1] + split[2] + split[3] != n) continue;
            int sum = 0;
            for (int i = 0; i < 4; i++) sum += rows[i][split[i]];
            if (sum > best) {
                best = sum;
                bestSplit = split;
            }
        }
        return c == -1 ? best : bestSplit[c];
    }

    /** Rounds, the share then, whether all can be read. */
    private int[] byItself(int c, int line) {
        int wholes = now.wholes[c];
        for (int rounds = 0;; rounds++) {
            int share = shareOf(now.signs[c], wholes, now.mixed[c]);
            int next = NONE;
            for (int w = 0; w < words(); w++) {
                if (reads(w, now.signs[c], wholes, now.mixed[c])[1] == w) continue;
                if (next == NONE || now.often.get(w) > now.often.get(next)) next = w;
            }
            if (next == NONE || share * 1000L < (long) line * all()) {
                return new int[] {rounds, share, next == NONE ? 1 : 0};
            }
            wholes |= 1 << next;
        }
    }

    int itself(int c, int line, int what) {
        if (noChild(c)) return UNKNOWN;
        if (line < 0 || line > 1000 || what < 0 || what > 1) return OUTSIDE;
        return byItself(c, line)[what];
    }

    int line(int c) {
        if (noChild(c)) return UNKNOWN;
        int found = NONE;
        for (int low = 0, high = 1000; low <= high;) {
            int middle = (low + high) / 2;
            if (byItself(c, middle)[2] == 1) {
                found = middle;
                low = middle + 1;
            } else {
                high = middle - 1;
            }
        }
        return found;
    }

    int image(int n) {
        if (n < 0 || n > 1) return OUTSIDE;
        images[n] = now.copy();
        return 1;
    }

    int restore(int n) {
        if (n < 0 || n > 1) return OUTSIDE;
        if (images[n] == null) return STATE;
        now = images[n].copy();
        return 1;
    }

    int told(int what) {
        if (what == 0) return pad.length();
        if (what == 1) return words();
        if (what == 2) return now.answers.size();
        if (what == 3) return all();
        if (what >= 10 && what <= 13) return now.signs[what - 10];
        if (what >= 20 && what <= 23) return now.wholes[what - 20];
        if (what >= 30 && what <= 33) return mixed(what - 30);
        return OUTSIDE;
    }
}
