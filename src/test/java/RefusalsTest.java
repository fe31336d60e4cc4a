import java.util.ArrayList;
import java.util.List;
import java.util.function.Supplier;

/**
 * Every call with every mix of last numbers that are taken and first that are refused (also the least and the greatest int),
 * on objects that are new, half full and full: which refusal is answered ("the first of these that fits"),
 * and that nothing that any other call shows is changed by it ("They change nothing").
 */
public final class RefusalsTest {
    private static final int UNKNOWN = -1, OUTSIDE = -2, STATE = -3, FULL = -4, NO = -5, NONE = -6;
    private static final int LEAST = Integer.MIN_VALUE, GREATEST = Integer.MAX_VALUE;
    private static final long LOST = -1000000000000000000L;
    /** In the order in which the document looks at them. */
    private static final int[] BY_RANK = {UNKNOWN, OUTSIDE, STATE, NO, FULL};
    private static final int NOTHING = 0;
    /** What an object may be called at most. */
    private static final int MOST_CALLS = 512;

    private static int passed = 0;
    private static int failed = 0;

    private interface Call {
        long on(WordsFirst x);
    }

    private record Named(String name, Call call) {
    }

    /** One number of a call: which values are taken, which refused, and how. */
    private record Range(int refusal, int[] taken, int[] refused) {
    }

    /** An object in some state, by how many calls at most it comes to it, and what its state refuses. */
    private record Scene(String name, Supplier<WordsFirst> make, int calls, int words, boolean padFull, int wordRefusal, boolean answersFull,
        boolean mayIsNone, boolean[] kept) {
    }

    private final Scene scene;
    private final List<List<Named>> views = new ArrayList<>();
    private final List<long[]> dueViews = new ArrayList<>();
    private List<Named> ahead = List.of();

    private RefusalsTest(Scene scene) {
        this.scene = scene;
    }

    public static void main(String[] args) {
        for (Scene scene : scenes()) new RefusalsTest(scene).go();
        System.out.println(passed + " passed, " + failed + " failed");
        if (failed > 0) System.exit(1);
    }

    private static void due(String what, long got, long want) {
        if (got == want) {
            passed++;
            return;
        }
        failed++;
        if (failed < 40) System.out.println(what + " answered " + got + ", due is " + want);
    }

    // ---- the scenes

    private static List<Scene> scenes() {
        return List.of(
            new Scene("new", WordsFirst::new, 0, 0, false, NO, false, false, new boolean[] {false, false}),
            new Scene("half full", RefusalsTest::halfFull, 90, 5, false, NOTHING, false, false, new boolean[] {false, true}),
            new Scene("full", RefusalsTest::full, 160, 12, true, NO, true, false, new boolean[] {true, true}),
            new Scene("a full BOOK, a good PAD, MAY is none", RefusalsTest::contradicted, 120, 12, false, FULL, false, true, new boolean[] {true, false}),
            new Scene("letters that there are", RefusalsTest::sameLetters, 90, 5, false, NO, false, false, new boolean[] {false, true}));
    }

    private static WordsFirst halfFull() {
        WordsFirst x = Checks.book("ab=01 100", "ac=02 50", "ba=10 30");
        teach(x, 7);
        x.answer(0, false);
        x.image(1);
        Checks.add(x, "ad=43", 20);
        Checks.add(x, "e=4", 7);
        teach(x, 25);
        x.answer(4, true);
        Checks.spell(x, "cad=253");
        return x;
    }

    private static WordsFirst sameLetters() {
        WordsFirst x = halfFull();
        x.wipe();
        Checks.spell(x, "ba=99");
        return x;
    }

    private static final String[] TWELVE = {"ab=01", "ac=02", "ba=10", "ad=43", "e=4", "bca=120", "dabe=3014", "fghij=56789", "ji=98",
        "j=9", "hb=71", "cc=21"};

    private static WordsFirst twelve() {
        WordsFirst x = new WordsFirst();
        for (int w = 0; w < 11; w++) Checks.add(x, TWELVE[w], 7 * w % 10 + 1);
        return x;
    }

    private static WordsFirst full() {
        WordsFirst x = twelve();
        teach(x, 2047);
        x.image(0);
        Checks.add(x, TWELVE[11], 999);
        teach(x, 1365);
        x.image(1);
        for (int i = 0; i < 20; i++) x.answer(i % 3 == 0 ? 7 : 4, i % 3 != 0);
        Checks.spell(x, "abcde=01234567");
        return x;
    }

    private static WordsFirst contradicted() {
        WordsFirst x = twelve();
        x.answer(4, true);
        x.image(0);
        Checks.add(x, TWELVE[11], 5);
        teach(x, 682);
        x.answer(4, false);
        Checks.spell(x, "dad=303");
        return x;
    }

    private static void teach(WordsFirst x, int wholes) {
        for (int child = 0; child < 4; child++) {
            x.knows(child, 0, 0b1011011011 >> child);
            x.knows(child, 1, wholes >> child);
            if (child > 0) x.mix(child, child, child + 1);
        }
    }

    // ---- what the other calls show

    /** What follows is shown by a new object each time, behind these calls. */
    private void viewBehind(Named... calls) {
        ahead = List.of(calls);
        views.add(new ArrayList<>(ahead));
    }

    private void view(String name, Call call) {
        if (views.get(views.size() - 1).size() >= MOST_CALLS - scene.calls - 1) views.add(new ArrayList<>(ahead));
        views.get(views.size() - 1).add(new Named(name, call));
    }

    private void findViews() {
        viewBehind();
        viewTold();
        viewWords();
        viewChildren();
        viewOrders();
        viewAnswers();
        viewLessons();
        // What these calls take away they also show: each on an object of its own.
        viewBehind(new Named("wipe()", WordsFirst::wipe), new Named("clear()", WordsFirst::clear));
        viewBehind(new Named("say(48)", x -> x.say('0')));
        view("fault()", WordsFirst::fault);
        viewBehind(new Named("word(7)", x -> x.word(7)));
        viewTold();
        viewWords();
        viewImages();
        for (List<Named> list : views) dueViews.add(look(scene.make.get(), list));
    }

    private void viewImages() {
        for (int image = 0; image < 2; image++) {
            int n = image;
            Named restore = new Named("restore(" + n + ")", x -> x.restore(n));
            viewBehind(restore);
            viewTold();
            viewWords();
            viewAnswers();
            for (int child = 0; child < 4; child++) {
                int of = child;
                view("share(" + of + ")", x -> x.share(of));
            }
            viewBehind(restore, new Named("word(7)", x -> x.word(7)));
            viewTold();
            viewWords();
        }
    }

    private void viewTold() {
        for (int what = 0; what < 34; what++) {
            int of = what;
            view("told(" + of + ")", x -> x.told(of));
        }
        view("fault()", WordsFirst::fault);
    }

    private void viewWords() {
        for (int word = 0; word <= scene.words; word++) {
            int w = word;
            for (int what : new int[] {0, 1, 2, 3, 10, 11, 12, 13, 14, 20, 21, 22, 23, 24}) view("about(" + w + ", " + what + ")", x -> x.about(w, what));
        }
        for (int sign = 0; sign < 10; sign++) {
            int s = sign;
            view("common(" + s + ")", x -> x.common(s));
            for (int sound = 0; sound < 10; sound++) {
                int of = sound;
                view("has(" + s + ", " + of + ", 0)", x -> x.has(s, of, 0));
            }
            view("has(" + s + ", 0, 1)", x -> x.has(s, 0, 1));
        }
        view("ruled(0)", x -> x.ruled(0));
        view("ruled(1)", x -> x.ruled(1));
    }

    private void viewChildren() {
        for (int child = 0; child < 4; child++) {
            int of = child;
            view("share(" + of + ")", x -> x.share(of));
            view("line(" + of + ")", x -> x.line(of));
            for (int line : new int[] {0, 300, 1000}) view("itself(" + of + ", " + line + ", 0)", x -> x.itself(of, line, 0));
            view("itself(" + of + ", 1, 1)", x -> x.itself(of, 1, 1));
            for (int i = -1; i < 12; i++) {
                int place = i;
                view("tale(" + of + ", " + place + ")", x -> x.tale(of, place));
            }
            for (int word = 0; word < scene.words; word++) {
                int w = word;
                view("read(" + of + ", " + w + ", 0)", x -> x.read(of, w, 0));
                view("read(" + of + ", " + w + ", 1)", x -> x.read(of, w, 1));
            }
        }
    }

    private void viewOrders() {
        for (int i = -1; i < 10; i++) {
            int place = i;
            view("order(" + place + ")", x -> x.order(place));
        }
        for (int signs = 1; signs < 1024; signs = signs * 2 + 1) {
            int of = signs;
            view("gives(" + of + ", 0)", x -> x.gives(of, 0));
        }
        view("gives(0, all)", x -> x.gives(0, (1 << scene.words) - 1));
        for (int k = 0; k <= 10; k += 2) {
            int signs = k;
            for (int what = 0; what < 3; what++) {
                int of = what;
                view("most(" + signs + ", " + scene.words / 3 + ", " + of + ")", x -> x.most(signs, scene.words / 3, of));
            }
        }
    }

    private void viewAnswers() {
        view("may()", WordsFirst::may);
        view("tells()", WordsFirst::tells);
        view("test()", WordsFirst::test);
        view("price(0)", x -> x.price(0));
        view("price(1)", x -> x.price(1));
        for (int sign = 0; sign < 10; sign++) {
            int of = sign;
            view("lacks(" + of + ", 0)", x -> x.lacks(of, 0));
            view("lacks(" + of + ", 1)", x -> x.lacks(of, 1));
        }
        for (int word = 0; word < scene.words; word++) {
            int w = word;
            for (int i = 0; i < 5; i++) {
                int place = i;
                view("respelt(" + w + ", " + place + ")", x -> x.respelt(w, place));
            }
        }
    }

    private void viewLessons() {
        for (int n = 0; n <= 12; n += 3) {
            int of = n;
            for (int child = -1; child < 4; child++) {
                int whose = child;
                view("shared(" + of + ", " + whose + ")", x -> x.shared(of, whose));
                if (child >= 0) view("lessons(" + whose + ", " + of + ")", x -> x.lessons(whose, of));
            }
        }
    }

    private static long[] look(WordsFirst x, List<Named> list) {
        long[] answers = new long[list.size()];
        for (int i = 0; i < answers.length; i++) answers[i] = list.get(i).call.on(x);
        return answers;
    }

    private void checkNothingChanges(String name, Call refused) {
        for (int list = 0; list < views.size(); list++) {
            WordsFirst x = scene.make.get();
            refused.on(x);
            long[] got = look(x, views.get(list));
            long[] want = dueViews.get(list);
            for (int i = 0; i < got.length; i++) {
                due(scene.name + ": behind the refused " + name + ", " + views.get(list).get(i).name, got[i], want[i]);
            }
        }
    }

    // ---- every call

    private void go() {
        findViews();
        tryWords();
        tryFractions();
        tryChildren();
        tryMixes();
        tryOrders();
        tryAnswers();
        tryLessons();
        tryImages();
    }

    private static Range among(int refusal, int least, int greatest) {
        return new Range(refusal, new int[] {least, greatest}, new int[] {LEAST, least - 1, greatest + 1, GREATEST});
    }

    private static Range child() {
        return among(UNKNOWN, 0, 3);
    }

    private static Range sign() {
        return among(UNKNOWN, 0, 9);
    }

    private static Range zeroOrOne() {
        return among(OUTSIDE, 0, 1);
    }

    private Range word() {
        int[] taken = scene.words > 0 ? new int[] {0, scene.words - 1} : new int[] {};
        return new Range(UNKNOWN, taken, new int[] {LEAST, -1, scene.words, GREATEST});
    }

    private Range wordSet() {
        return among(OUTSIDE, 0, (1 << scene.words) - 1);
    }

    private void tryWords() {
        each("say", scene.padFull ? FULL : NOTHING, false, (x, n) -> x.say(n[0]), among(OUTSIDE, 33, 126));
        each("word", scene.wordRefusal, false, (x, n) -> x.word(n[0]), among(OUTSIDE, 1, 999));
        Range what = new Range(OUTSIDE, new int[] {0, 3, 10, 14, 20, 24}, new int[] {LEAST, -1, 4, 9, 15, 19, 25, GREATEST});
        each("about", NOTHING, false, (x, n) -> x.about(n[0], n[1]), word(), what);
        each("often", NOTHING, false, (x, n) -> x.often(n[0], n[1]), word(), among(OUTSIDE, 1, 999));
        each("common", NOTHING, false, (x, n) -> x.common(n[0]), sign());
    }

    private void tryFractions() {
        each("has", NOTHING, true, (x, n) -> x.has(n[0], n[1], n[2]), sign(), among(OUTSIDE, 0, 9), zeroOrOne());
        each("ruled", NOTHING, true, (x, n) -> x.ruled(n[0]), zeroOrOne());
        each("lacks", scene.mayIsNone ? NO : NOTHING, true, (x, n) -> x.lacks(n[0], n[1]), sign(), zeroOrOne());
    }

    private void tryChildren() {
        each("knows 0", NOTHING, false, (x, n) -> x.knows(n[0], 0, n[1]), child(), among(OUTSIDE, 0, 1023));
        each("knows 1", NOTHING, false, (x, n) -> x.knows(n[0], 1, n[1]), child(), wordSet());
        each("knows", NOTHING, false, (x, n) -> x.knows(n[0], n[1], 0), child(), zeroOrOne());
        each("read", NOTHING, false, (x, n) -> x.read(n[0], n[1], n[2]), child(), word(), zeroOrOne());
        each("share", NOTHING, false, (x, n) -> x.share(n[0]), child());
        each("gives", NOTHING, false, (x, n) -> x.gives(n[0], n[1]), among(OUTSIDE, 0, 1023), wordSet());
    }

    /** Two numbers that are refused together, not each by itself. */
    private void tryMixes() {
        int[] signs = {LEAST, -2, -1, 0, 9, 10, GREATEST};
        for (int child : new int[] {LEAST, -1, 0, 3, 4, GREATEST}) {
            for (int sign : signs) {
                for (int other : signs) {
                    boolean none = sign == -1 && other == -1;
                    boolean two = sign >= 0 && sign <= 9 && other >= 0 && other <= 9 && sign != other;
                    boolean taken = child >= 0 && child <= 3 && (none || two);
                    check("mix(" + child + ", " + sign + ", " + other + ")", taken ? NOTHING : UNKNOWN, x -> x.mix(child, sign, other));
                }
            }
        }
    }

    private void tryOrders() {
        each("most", NOTHING, false, (x, n) -> x.most(n[0], n[1], n[2]), among(OUTSIDE, 0, 10), among(OUTSIDE, 0, scene.words), among(OUTSIDE, 0, 2));
        Range place = new Range(NONE, new int[] {-1, 0, 9, LEAST, -2, 10, GREATEST}, new int[] {});
        each("order", NOTHING, false, (x, n) -> x.order(n[0]), place);
        each("tale", NOTHING, false, (x, n) -> x.tale(n[0], n[1]), child(), place);
    }

    private void tryAnswers() {
        each("answer, right", scene.answersFull ? FULL : NOTHING, false, (x, n) -> x.answer(n[0], true), word());
        each("answer, wrong", scene.answersFull ? FULL : NOTHING, false, (x, n) -> x.answer(n[0], false), word());
        each("respelt", NOTHING, false, (x, n) -> x.respelt(n[0], n[1]), word(), among(OUTSIDE, 0, 4));
        each("price", NOTHING, false, (x, n) -> x.price(n[0]), zeroOrOne());
    }

    private void tryLessons() {
        each("lessons", NOTHING, false, (x, n) -> x.lessons(n[0], n[1]), child(), among(OUTSIDE, 0, 12));
        each("shared", NOTHING, false, (x, n) -> x.shared(n[0], n[1]), among(OUTSIDE, 0, 12), among(UNKNOWN, -1, 3));
        each("itself", NOTHING, false, (x, n) -> x.itself(n[0], n[1], n[2]), child(), among(OUTSIDE, 0, 1000), zeroOrOne());
        each("line", NOTHING, false, (x, n) -> x.line(n[0]), child());
    }

    private void tryImages() {
        each("image", NOTHING, false, (x, n) -> x.image(n[0]), zeroOrOne());
        for (int n : new int[] {LEAST, -1, 2, GREATEST}) check("restore(" + n + ")", OUTSIDE, x -> x.restore(n));
        for (int n = 0; n < 2; n++) {
            int of = n;
            check("restore(" + of + ")", scene.kept[of] ? NOTHING : STATE, x -> x.restore(of));
        }
        Range what = new Range(OUTSIDE, new int[] {0, 3, 10, 13, 20, 23, 30, 33}, new int[] {LEAST, -1, 4, 9, 14, 19, 24, 29, 34, GREATEST});
        each("told", NOTHING, false, (x, n) -> x.told(n[0]), what);
    }

    private interface CallOf {
        long on(WordsFirst x, int[] numbers);
    }

    /** The call with every mix of these numbers. */
    private void each(String name, int refusalOfState, boolean fraction, CallOf call, Range... ranges) {
        tryRanges(name + "(", refusalOfState, fraction, call, ranges, new int[ranges.length], 0, new ArrayList<>());
    }

    private void tryRanges(String name, int refusalOfState, boolean fraction, CallOf call, Range[] ranges, int[] numbers, int i, List<Integer> fitting) {
        if (i == ranges.length) {
            int[] given = numbers.clone();
            List<Integer> all = new ArrayList<>(fitting);
            if (refusalOfState != NOTHING) all.add(refusalOfState);
            int first = firstOf(all);
            check(name + ")", first != NOTHING && fraction ? LOST + first : first, x -> call.on(x, given));
            return;
        }
        String next = name + (i > 0 ? ", " : "");
        for (int number : ranges[i].taken) {
            numbers[i] = number;
            tryRanges(next + number, refusalOfState, fraction, call, ranges, numbers, i + 1, fitting);
        }
        for (int number : ranges[i].refused) {
            numbers[i] = number;
            List<Integer> more = new ArrayList<>(fitting);
            more.add(ranges[i].refusal);
            tryRanges(next + number, refusalOfState, fraction, call, ranges, numbers, i + 1, more);
        }
    }

    private static int firstOf(List<Integer> fitting) {
        for (int refusal : BY_RANK) if (fitting.contains(refusal)) return refusal;
        return NOTHING;
    }

    private void check(String name, long refusal, Call call) {
        long got = call.on(scene.make.get());
        if (refusal == NOTHING) {
            due(scene.name + ": " + name + " is taken, so that a refusal", got < 0 && got != NONE ? got : 0, 0);
            return;
        }
        due(scene.name + ": " + name, got, refusal);
        checkNothingChanges(name, call);
    }
}
