import java.util.Random;

/** Long runs of calls by fixed seeds, each answer held against the Oracle's. */
public final class RandomRunsTest {
    private static final int RUNS = 800;
    private static final int MOST_CALLS = 512;
    /** No step makes more calls than these. */
    private static final int MOST_CALLS_OF_STEP = 40;
    private static final int KINDS = 32;
    private static int passed = 0;
    private static int failed = 0;

    private final Random random;
    private final WordsFirst real = new WordsFirst();
    private final Oracle oracle = new Oracle();
    private final int run;
    private final int signs;
    private final int sounds;
    private final boolean withOrder;
    private final int mostOften;
    private int calls = 0;

    private RandomRunsTest(int run) {
        this.run = run;
        random = new Random(7000 + run);
        signs = 1 + random.nextInt(10);
        sounds = 1 + random.nextInt(10);
        withOrder = run % 8 == 0;
        mostOften = run % 3 == 0 ? 3 : run % 3 == 1 ? 30 : 999;
    }

    public static void main(String[] args) {
        for (int run = 0; run < RUNS; run++) {
            new RandomRunsTest(run).go();
        }
        System.out.println(passed + " passed, " + failed + " failed");
        if (failed > 0) System.exit(1);
    }

    private void go() {
        int wanted = random.nextInt(13);
        for (int w = 0; w < wanted; w++) addWord();
        while (calls <= MOST_CALLS - MOST_CALLS_OF_STEP) step(random.nextInt(100));
        if (calls > MOST_CALLS) fail("run " + run + " makes " + calls + " calls on one object");
    }

    private void step(int percent) {
        if (percent < 4) addWord();
        else if (percent < 12) teach();
        else call(random.nextInt(KINDS));
    }

    private void addWord() {
        check("wipe()", real.wipe(), oracle.wipe());
        int n = 1 + random.nextInt(random.nextInt(4) == 0 ? 5 : 3);
        StringBuilder text = new StringBuilder();
        StringBuilder digits = new StringBuilder();
        for (int i = 0; i < n; i++) {
            int sign = random.nextInt(signs);
            text.append((char) ('a' + sign));
            boolean ruled = random.nextInt(5) > 0;
            digits.append((char) ('0' + (ruled ? sign % sounds : random.nextInt(sounds))));
        }
        text.append('=').append(digits);
        for (char c : text.toString().toCharArray()) say(c);
        int often = 1 + random.nextInt(mostOften);
        check("word(" + often + ")", real.word(often), oracle.word(often));
    }

    private void say(int c) {
        check("say(" + c + ")", real.say(c), oracle.say(c));
    }

    private void teach() {
        int child = random.nextInt(4);
        int v = random.nextInt(1024) | random.nextInt(1024);
        check("knows(" + child + ", 0, " + v + ")", real.knows(child, 0, v), oracle.knows(child, 0, v));
        int whole = random.nextInt(1 << oracle.told(1)) & random.nextInt(4096) & random.nextInt(4096);
        check("knows(" + child + ", 1, " + whole + ")", real.knows(child, 1, whole), oracle.knows(child, 1, whole));
    }

    /** A number from low to high, now and then one that is just outside or far from it. */
    private int number(int low, int high) {
        int kind = random.nextInt(40);
        if (kind == 0) return low - 1;
        if (kind == 1) return high + 1;
        if (kind == 2) {
            int[] far = {Integer.MIN_VALUE, Integer.MAX_VALUE, -1, 0, 1 << 20, -1000};
            return far[random.nextInt(far.length)];
        }
        return low + random.nextInt(high - low + 1);
    }

    private int child() {
        return number(0, 3);
    }

    private int sign() {
        return number(0, random.nextBoolean() ? 9 : signs - 1);
    }

    private int word() {
        return number(0, Math.max(0, oracle.told(1) - 1));
    }

    private void call(int kind) {
        if (kind < 10) callOfPart1(kind);
        else if (kind < 18) callOfParts2And3(kind);
        else if (kind < 25) callOfPart4(kind);
        else callOfPart5(kind);
    }

    private void callOfPart1(int kind) {
        int a = word();
        int b;
        switch (kind) {
            case 0 -> say(random.nextInt(3) == 0 ? number(33, 126) : "abcdefghij=0123456789".charAt(random.nextInt(21)));
            case 1 -> { if (random.nextInt(4) == 0) check("wipe()", real.wipe(), oracle.wipe()); }
            case 2 -> check("fault()", real.fault(), oracle.fault());
            case 3 -> { b = number(1, mostOften); check("word(" + b + ")", real.word(b), oracle.word(b)); }
            case 4 -> { b = number(0, 3); check("about(" + a + ", " + b + ")", real.about(a, b), oracle.about(a, b)); }
            case 5 -> { b = number(10, 24); check("about(" + a + ", " + b + ")", real.about(a, b), oracle.about(a, b)); }
            case 6 -> { b = number(1, mostOften); check("often(" + a + ", " + b + ")", real.often(a, b), oracle.often(a, b)); }
            case 7 -> {
                int s = sign();
                int sound = number(0, 9);
                int part = number(0, 1);
                check("has(" + s + ", " + sound + ", " + part + ")", real.has(s, sound, part), oracle.has(s, sound, part));
            }
            case 8 -> { b = sign(); check("common(" + b + ")", real.common(b), oracle.common(b)); }
            default -> { b = number(0, 1); check("ruled(" + b + ")", real.ruled(b), oracle.ruled(b)); }
        }
    }

    private void callOfParts2And3(int kind) {
        int c = child();
        int b;
        switch (kind) {
            case 10 -> {
                int what = number(0, 1);
                int v = what == 1 ? number(0, (1 << oracle.told(1)) - 1) : number(0, 1023);
                check("knows(" + c + ", " + what + ", " + v + ")", real.knows(c, what, v), oracle.knows(c, what, v));
            }
            case 11 -> {
                boolean none = random.nextInt(4) == 0;
                int s = none ? -1 : sign();
                int o = none ? -1 : sign();
                check("mix(" + c + ", " + s + ", " + o + ")", real.mix(c, s, o), oracle.mix(c, s, o));
            }
            case 12, 13 -> {
                int w = word();
                b = number(0, 1);
                check("read(" + c + ", " + w + ", " + b + ")", real.read(c, w, b), oracle.read(c, w, b));
            }
            case 14 -> check("share(" + c + ")", real.share(c), oracle.share(c));
            case 15 -> {
                int s = number(0, 1023);
                b = number(0, (1 << oracle.told(1)) - 1);
                check("gives(" + s + ", " + b + ")", real.gives(s, b), oracle.gives(s, b));
            }
            case 16 -> {
                int k = number(0, 10);
                int w = number(0, oracle.told(1));
                b = number(0, 2);
                check("most(" + k + ", " + w + ", " + b + ")", real.most(k, w, b), oracle.most(k, w, b));
            }
            default -> {
                if (withOrder && random.nextInt(6) == 0) for (int i = -2; i <= 10; i++) check("order(" + i + ")", real.order(i), oracle.order(i));
                for (int i = -2; i <= 12; i++) check("tale(" + c + ", " + i + ")", real.tale(c, i), oracle.tale(c, i));
            }
        }
    }

    private void callOfPart4(int kind) {
        int a;
        int b;
        switch (kind) {
            case 18 -> {
                a = word();
                // Most answers are such as one who lacks few signs would give, so that MAY is not soon none.
                boolean right = oracle.about(a, 3) == 1 && random.nextInt(3) > 0;
                check("answer(" + a + ", " + right + ")", real.answer(a, right), oracle.answer(a, right));
            }
            case 19 -> { if (random.nextInt(10) == 0) check("clear()", real.clear(), oracle.clear()); }
            case 20 -> check("may()", real.may(), oracle.may());
            case 21 -> { a = sign(); b = number(0, 1); check("lacks(" + a + ", " + b + ")", real.lacks(a, b), oracle.lacks(a, b)); }
            case 22 -> check("tells()", real.tells(), oracle.tells());
            case 23 -> check("test()", real.test(), oracle.test());
            default -> {
                a = word();
                b = number(0, 4);
                check("respelt(" + a + ", " + b + ")", real.respelt(a, b), oracle.respelt(a, b));
                b = number(0, 1);
                check("price(" + b + ")", real.price(b), oracle.price(b));
            }
        }
    }

    private void callOfPart5(int kind) {
        int c = child();
        int b;
        switch (kind) {
            case 25 -> { b = number(0, 12); check("lessons(" + c + ", " + b + ")", real.lessons(c, b), oracle.lessons(c, b)); }
            case 26 -> { b = number(0, 12); c = number(-1, 3); check("shared(" + b + ", " + c + ")", real.shared(b, c), oracle.shared(b, c)); }
            case 27 -> {
                int line = number(0, 1000);
                b = number(0, 1);
                check("itself(" + c + ", " + line + ", " + b + ")", real.itself(c, line, b), oracle.itself(c, line, b));
            }
            case 28 -> check("line(" + c + ")", real.line(c), oracle.line(c));
            case 29 -> { b = number(0, 1); check("image(" + b + ")", real.image(b), oracle.image(b)); }
            case 30 -> { b = number(0, 1); check("restore(" + b + ")", real.restore(b), oracle.restore(b)); }
            default -> { for (int what = -1; what < 36; what++) check("told(" + what + ")", real.told(what), oracle.told(what)); }
        }
    }

    private void check(String call, long got, long due) {
        calls++;
        if (got == due) {
            passed++;
            return;
        }
        fail("run " + run + ": " + call + " answered " + got + ", due is " + due);
    }

    private static void fail(String what) {
        failed++;
        if (failed < 40) System.out.println(what);
    }
}
