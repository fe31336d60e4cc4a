import java.lang.reflect.Modifier;

/** For each promise: ordinary inputs, the edges that the document names, wrong inputs, and which refusal comes first. */
public final class PromiseTest {
    private static final int UNKNOWN = -1, OUTSIDE = -2, STATE = -3, FULL = -4, NO = -5, NONE = -6;
    private static final long LOST = -1000000000000000000L;
    private static final int[] FAR = {Integer.MIN_VALUE, Integer.MAX_VALUE};
    private static int passed = 0;
    private static int failed = 0;
    private static String promise = "";

    private static void due(String what, long got, long want) {
        if (got == want) {
            passed++;
            return;
        }
        failed++;
        System.out.println(promise + ": " + what + " answered " + got + ", due is " + want);
    }

    private static void spell(WordsFirst x, String text) {
        x.wipe();
        for (char c : text.toCharArray()) x.say(c);
    }

    private static int add(WordsFirst x, String text, int often) {
        spell(x, text);
        return x.word(often);
    }

    /** A book: "ab=01 10" and so on. */
    private static WordsFirst book(String... words) {
        WordsFirst x = new WordsFirst();
        for (String w : words) {
            String[] two = w.split(" ");
            add(x, two[0], Integer.parseInt(two[1]));
        }
        return x;
    }

    private static final String[] TWELVE = {"a=0 1", "b=1 2", "c=2 3", "d=3 4", "e=4 5", "f=5 6",
        "g=6 7", "h=7 8", "i=8 9", "j=9 10", "ab=01 11", "ba=10 12"};

    public static void main(String[] args) {
        newObject();
        say();
        wipe();
        fault();
        word();
        about();
        often();
        has();
        common();
        ruled();
        knows();
        mix();
        read();
        share();
        gives();
        order();
        most();
        tale();
        answersAndClear();
        may();
        lacks();
        tells();
        test();
        respelt();
        price();
        lessons();
        shared();
        itself();
        line();
        images();
        told();
        refusalsChangeNothing();
        System.out.println(passed + " passed, " + failed + " failed");
        if (failed > 0) System.exit(1);
    }

    private static void newObject() {
        promise = "promise 1";
        WordsFirst x = new WordsFirst();
        for (int what = 0; what < 4; what++) due("told(" + what + ")", x.told(what), 0);
        for (int c = 0; c < 4; c++) {
            due("told signs", x.told(10 + c), 0);
            due("told wholes", x.told(20 + c), 0);
            due("told mixed", x.told(30 + c), NONE);
            due("share", x.share(c), 0);
            due("tale", x.tale(c, -1), 0);
            due("tale 0", x.tale(c, 0), NONE);
            due("lessons", x.lessons(c, 12), 0);
            due("itself", x.itself(c, 1000, 0), 0);
            due("itself share", x.itself(c, 0, 1), 0);
            due("line: it comes to all of nothing by any", x.line(c), 1000);
        }
        due("may", x.may(), 1024);
        due("tells", x.tells(), NONE);
        due("test", x.test(), 0);
        due("price", x.price(0), 0);
        due("clash", x.price(1), NONE);
        due("ruled up", x.ruled(0), 0);
        due("ruled low", x.ruled(1), 1);
        due("order sum", x.order(-1), 0);
        for (int i = 0; i < 10; i++) due("order", x.order(i), i);
        due("most", x.most(3, 0, 0), 0);
        due("most signs", x.most(3, 0, 1), 7);
        due("shared", x.shared(5, -1), 0);
        due("shared 3", x.shared(5, 3), 5);
        due("restore", x.restore(0), STATE);
    }

    private static void say() {
        promise = "promise 2";
        WordsFirst x = new WordsFirst();
        due("say(32)", x.say(32), OUTSIDE);
        due("say(127)", x.say(127), OUTSIDE);
        for (int far : FAR) due("say far", x.say(far), OUTSIDE);
        due("say(33)", x.say(33), 1);
        due("say(126)", x.say(126), 2);
        for (int i = 3; i <= 14; i++) due("say", x.say('a'), i);
        due("a fifteenth", x.say('a'), FULL);
        due("OUTSIDE ahead of FULL", x.say(0), OUTSIDE);
        due("told", x.told(0), 14);
    }

    private static void wipe() {
        promise = "promise 3";
        WordsFirst x = new WordsFirst();
        due("none", x.wipe(), 0);
        x.say('a');
        x.say('=');
        due("two", x.wipe(), 2);
        due("none again", x.wipe(), 0);
        due("say", x.say('b'), 1);
    }

    private static int faultOf(String text) {
        WordsFirst x = new WordsFirst();
        spell(x, text);
        return x.fault();
    }

    private static void fault() {
        promise = "promise 4";
        String[] good = {"a=0", "j=9", "ab=01", "aa=00", "abc=999", "abcd=0123", "abcde=01234", "jjjjj=99999"};
        for (String text : good) due(text, faultOf(text), NONE);
        String[] moreMustCome = {"", "a", "abcde", "a=", "ab=", "ab=0", "abcde=0123"};
        for (String text : moreMustCome) due(text, faultOf(text), text.length());
        due("a sixth letter", faultOf("abcdea"), 5);
        due("= ahead", faultOf("=a"), 0);
        due("a digit more", faultOf("a=01"), 3);
        due("five digits and one", faultOf("abcde=012345"), 11);
        due("k", faultOf("ak=00"), 1);
        due("capital", faultOf("A=0"), 0);
        due("digit ahead", faultOf("0"), 0);
        due("digit for a letter", faultOf("a0=0"), 1);
        due("a second =", faultOf("ab=="), 3);
        due("letter behind", faultOf("ab=0a"), 4);
        due("= behind", faultOf("a=0="), 3);
        due("` ahead of a", faultOf("`"), 0);
        due("/ ahead of 0", faultOf("a=/"), 2);
        due(": behind 9", faultOf("a=:"), 2);
        due("fourteen", faultOf("abcde=01234567"), 11);
    }

    private static void word() {
        promise = "promise 5";
        WordsFirst x = new WordsFirst();
        due("an empty PAD", x.word(1), NO);
        due("OUTSIDE ahead of NO", x.word(0), OUTSIDE);
        due("1000", x.word(1000), OUTSIDE);
        for (int far : FAR) due("far", x.word(far), OUTSIDE);
        due("first", add(x, "ab=01", 1), 0);
        due("the PAD is empty then", x.told(0), 0);
        due("second", add(x, "ba=10", 999), 1);
        due("the same letters", add(x, "ab=23", 5), NO);
        due("the PAD stays", x.told(0), 5);
        due("a beginning of it", add(x, "a=0", 5), 2);
        due("a longer one", add(x, "aba=010", 5), 3);
        due("the same sounds", add(x, "cd=01", 5), 4);
        WordsFirst y = book(TWELVE);
        due("twelve", y.told(1), 12);
        due("a thirteenth", add(y, "ca=20", 5), FULL);
        due("the PAD stays", y.told(0), 5);
        due("OUTSIDE ahead of FULL", y.word(0), OUTSIDE);
        due("NO ahead of FULL: letters", add(y, "ab=55", 5), NO);
        due("NO ahead of FULL: a FAULT", add(y, "ab=5", 5), NO);
        due("still twelve", y.told(1), 12);
    }

    private static void about() {
        promise = "promise 6";
        WordsFirst x = book("cacaj=20219 7", "b=1 8", "fc=55 3");
        int[] first = {5, 7, 1 | 4 | 512, 0};
        for (int what = 0; what < 4; what++) due("what " + what, x.about(0, what), first[what]);
        int[] signs = {2, 0, 2, 0, 9};
        int[] sounds = {2, 0, 2, 1, 9};
        for (int i = 0; i < 5; i++) {
            due("sign", x.about(0, 10 + i), signs[i]);
            due("sound", x.about(0, 20 + i), sounds[i]);
        }
        due("regular", x.about(1, 3), 1);
        due("b", x.about(1, 10), 1);
        due("sound of b", x.about(1, 20), 1);
        for (int i = 1; i < 5; i++) {
            due("no sign", x.about(1, 10 + i), NONE);
            due("no sound", x.about(1, 20 + i), NONE);
        }
        due("c is not 5 mostly", x.about(2, 3), 0);
        due("no word", x.about(3, 0), UNKNOWN);
        due("no word", x.about(-1, 0), UNKNOWN);
        due("UNKNOWN ahead of OUTSIDE", x.about(3, 99), UNKNOWN);
        for (int what : new int[] {-1, 4, 9, 15, 19, 25, Integer.MIN_VALUE, Integer.MAX_VALUE}) due("OUTSIDE", x.about(0, what), OUTSIDE);
        for (int far : FAR) due("far", x.about(far, 0), UNKNOWN);
    }

    private static void often() {
        promise = "promise 7";
        WordsFirst x = book("a=0 5", "ab=10 6");
        due("a is 1", x.common(0), 1);
        due("was", x.often(0, 6), 5);
        due("like ones: the least", x.common(0), 0);
        due("was", x.often(0, 999), 6);
        due("is", x.about(0, 1), 999);
        due("the least", x.often(1, 1), 6);
        due("is", x.about(1, 1), 1);
        due("0", x.often(0, 0), OUTSIDE);
        due("1000", x.often(0, 1000), OUTSIDE);
        due("no word", x.often(2, 1), UNKNOWN);
        due("no word", x.often(-1, 1), UNKNOWN);
        due("UNKNOWN ahead of OUTSIDE", x.often(2, 0), UNKNOWN);
        due("kept", x.about(0, 1), 999);
    }

    private static void has() {
        promise = "promise 8";
        WordsFirst x = book("aab=011 6", "a=0 4", "b=2 6");
        due("a 0 up", x.has(0, 0, 0), 5);
        due("a 0 low", x.has(0, 0, 1), 8);
        due("a 1 up", x.has(0, 1, 0), 3);
        due("a 1 low", x.has(0, 1, 1), 8);
        due("b 1 up", x.has(1, 1, 0), 1);
        due("b 1 low", x.has(1, 1, 1), 2);
        due("nothing up", x.has(0, 9, 0), 0);
        due("nothing low", x.has(0, 9, 1), 1);
        due("nowhere up", x.has(9, 0, 0), 0);
        due("nowhere low", x.has(9, 0, 1), 1);
        WordsFirst y = book("c=7 40");
        due("all up", y.has(2, 7, 0), 1);
        due("all low", y.has(2, 7, 1), 1);
        due("no sign", x.has(10, 0, 0), LOST - 1);
        due("no sign", x.has(-1, 0, 0), LOST - 1);
        due("UNKNOWN ahead of OUTSIDE", x.has(10, 10, 2), LOST - 1);
        due("no sound", x.has(0, 10, 0), LOST - 2);
        due("no sound", x.has(0, -1, 0), LOST - 2);
        due("no part", x.has(0, 0, 2), LOST - 2);
        due("no part", x.has(0, 0, -1), LOST - 2);
        for (int far : FAR) {
            due("far sign", x.has(far, 0, 0), LOST - 1);
            due("far sound", x.has(0, far, 0), LOST - 2);
            due("far part", x.has(0, 0, far), LOST - 2);
        }
    }

    private static void common() {
        promise = "promise 9";
        WordsFirst x = book("ab=93 5", "a=2 5", "bb=34 1");
        due("the least of like ones", x.common(0), 2);
        due("b", x.common(1), 3);
        due("nowhere", x.common(2), NONE);
        due("no sign", x.common(10), UNKNOWN);
        due("no sign", x.common(-1), UNKNOWN);
        for (int far : FAR) due("far", x.common(far), UNKNOWN);
    }

    private static void ruled() {
        promise = "promise 10";
        WordsFirst x = book("ab=01 4", "ac=12 2");
        due("up", x.ruled(0), 5);
        due("low", x.ruled(1), 6);
        x.often(1, 5);
        due("up", x.ruled(0), 7);
        due("low", x.ruled(1), 9);
        due("all by rule", book("ab=01 4").ruled(1), 1);
        due("2", x.ruled(2), LOST - 2);
        due("-1", x.ruled(-1), LOST - 2);
        for (int far : FAR) due("far", x.ruled(far), LOST - 2);
    }

    private static void knows() {
        promise = "promise 11";
        WordsFirst x = book("a=0 1", "b=1 1");
        due("signs", x.knows(0, 0, 1023), 0);
        due("signs were", x.knows(0, 0, 5), 1023);
        due("wholes", x.knows(0, 1, 3), 0);
        due("wholes were", x.knows(0, 1, 2), 3);
        due("signs are", x.told(10), 5);
        due("wholes are", x.told(20), 2);
        due("another child's", x.told(11), 0);
        due("1024", x.knows(0, 0, 1024), OUTSIDE);
        due("-1", x.knows(0, 0, -1), OUTSIDE);
        due("no such word", x.knows(0, 1, 4), OUTSIDE);
        due("-1", x.knows(0, 1, -1), OUTSIDE);
        due("what 2", x.knows(0, 2, 0), OUTSIDE);
        due("what -1", x.knows(0, -1, 0), OUTSIDE);
        due("no child", x.knows(4, 0, 0), UNKNOWN);
        due("no child", x.knows(-1, 0, 0), UNKNOWN);
        due("UNKNOWN ahead of OUTSIDE", x.knows(4, 2, -1), UNKNOWN);
        due("no words at all", new WordsFirst().knows(0, 1, 1), OUTSIDE);
        due("none of none", new WordsFirst().knows(3, 1, 0), 0);
        due("all twelve", book(TWELVE).knows(3, 1, 4095), 0);
        due("a thirteenth", book(TWELVE).knows(3, 1, 4096), OUTSIDE);
        for (int far : FAR) due("far", x.knows(0, 0, far), OUTSIDE);
    }

    private static void mix() {
        promise = "promise 12";
        WordsFirst x = new WordsFirst();
        due("none was", x.mix(0, 7, 3), NONE);
        due("lesser first", x.mix(0, 0, 5), 37);
        due("0 and 5", x.mix(0, 9, 8), 5);
        due("told", x.told(30), 89);
        due("another child", x.mix(1, -1, -1), NONE);
        due("one none", x.mix(0, -1, 3), UNKNOWN);
        due("one none", x.mix(0, 3, -1), UNKNOWN);
        due("both one", x.mix(0, 4, 4), UNKNOWN);
        due("no sign", x.mix(0, 10, 4), UNKNOWN);
        due("no sign", x.mix(0, 4, 10), UNKNOWN);
        due("-2", x.mix(0, -2, -2), UNKNOWN);
        due("no child", x.mix(4, 1, 2), UNKNOWN);
        due("no child", x.mix(-1, -1, -1), UNKNOWN);
        due("kept", x.mix(0, -1, -1), 89);
        due("gone", x.told(30), NONE);
        for (int far : FAR) due("far", x.mix(0, far, far), UNKNOWN);
    }

    private static void read() {
        promise = "promise 13";
        // a is 0, b is 1, c is 2: so "bc" (52) and "ca" (21) do not go by the rule.
        WordsFirst x = book("ab=01 50", "ba=10 40", "bc=52 30", "bb=11 40", "cab=201 9", "ca=21 3");
        readsTo(x, 0, 0, 3, NONE);
        x.knows(0, 0, 2);
        readsTo(x, 0, 1, 2, 1);
        readsTo(x, 0, 2, 2, 1);
        readsTo(x, 0, 3, 1, 3);
        readsTo(x, 0, 0, 3, NONE);
        x.knows(0, 0, 7);
        readsTo(x, 0, 0, 1, 0);
        readsTo(x, 0, 2, 1, NONE);
        readsTo(x, 0, 5, 1, NONE);
        x.knows(0, 1, 4);
        readsTo(x, 0, 2, 0, 2);
        x.mix(0, 0, 1);
        readsTo(x, 0, 0, 1, 1);
        readsTo(x, 0, 1, 1, 0);
        readsTo(x, 0, 3, 1, NONE);
        readsTo(x, 0, 2, 0, 2);
        x.knows(0, 0, 2);
        // A guess goes by the sign as it stands there, mixed up or not.
        readsTo(x, 0, 1, 2, 1);
        readsTo(x, 0, 0, 3, NONE);
        x.mix(0, 1, 7);
        readsTo(x, 0, 3, 1, NONE);
        due("another child", x.read(1, 2, 0), 3);
        homophones();
        due("no child", x.read(4, 0, 0), UNKNOWN);
        due("no child", x.read(-1, 0, 0), UNKNOWN);
        due("no word", x.read(0, 6, 0), UNKNOWN);
        due("no word", x.read(0, -1, 0), UNKNOWN);
        due("UNKNOWN ahead of OUTSIDE", x.read(0, 6, 2), UNKNOWN);
        due("what 2", x.read(0, 0, 2), OUTSIDE);
        due("what -1", x.read(0, 0, -1), OUTSIDE);
    }

    private static void readsTo(WordsFirst x, int child, int word, int how, int as) {
        due("how " + word, x.read(child, word, 0), how);
        due("as " + word, x.read(child, word, 1), as);
    }

    /** Words that sound alike: itself if it is among them, else the least. */
    private static void homophones() {
        WordsFirst x = book("a=3 5", "b=3 6", "c=3 7", "de=45 1", "cd=44 1", "d=3 1", "dd=44 9");
        x.knows(0, 0, 1023);
        readsTo(x, 0, 0, 1, 0);
        readsTo(x, 0, 2, 1, 2);
        x.mix(0, 1, 2);
        readsTo(x, 0, 2, 1, 2);
        x.mix(0, 0, 3);
        // d is taken for a: its common sound 3 is that of a, b, c and of itself.
        readsTo(x, 0, 5, 1, 5);
        readsTo(x, 0, 0, 1, NONE);
        x.mix(0, -1, -1);
        x.often(6, 1);
        x.often(5, 999);
        // d is 3 now: "dd" sounds 33, which none is.
        readsTo(x, 0, 6, 1, NONE);
        WordsFirst y = book("a=3 5", "b=3 6", "cd=24 9", "c=3 1", "ef=24 1");
        y.knows(0, 0, 1023);
        readsTo(y, 0, 3, 1, NONE);
        y.mix(0, 2, 1);
        readsTo(y, 0, 3, 1, 3);
        y.often(2, 1);
        y.often(3, 1);
        y.mix(0, -1, -1);
        readsTo(y, 0, 3, 1, NONE);
        WordsFirst z = book("a=3 5", "b=3 6", "cc=44 9", "c=5 1");
        z.knows(0, 0, 1023);
        z.mix(0, 2, 0);
        // c is taken for a, whose sound both a and b have, and c has not.
        readsTo(z, 0, 3, 1, 0);
    }

    private static void share() {
        promise = "promise 14";
        WordsFirst x = book("ab=01 10", "ac=03 4", "b=1 3", "cc=22 2");
        due("none", x.share(0), 0);
        x.knows(0, 0, 1);
        due("by a guess", x.share(0), 10);
        x.knows(0, 0, 7);
        due("by sounds", x.share(0), 15);
        x.knows(0, 1, 2);
        due("whole", x.share(0), 19);
        x.mix(0, 0, 1);
        due("mixed up", x.share(0), 6);
        due("another", x.share(1), 0);
        due("4", x.share(4), UNKNOWN);
        due("-1", x.share(-1), UNKNOWN);
        for (int far : FAR) due("far", x.share(far), UNKNOWN);
        // More signs may read less: what was guessed right is then sounded wrong.
        WordsFirst y = book("ab=01 5", "bb=22 9");
        y.knows(0, 0, 1);
        due("guessed", y.share(0), 5);
        y.knows(0, 0, 3);
        due("sounded", y.share(0), 9);
        due("as none", y.read(0, 0, 1), NONE);
    }

    private static void gives() {
        promise = "promise 15";
        WordsFirst x = book("ab=01 10", "ac=33 4", "b=1 3");
        due("nothing", x.gives(0, 0), 0);
        due("b", x.gives(2, 0), 3);
        due("a, b", x.gives(3, 0), 13);
        due("not what is irregular", x.gives(1023, 0), 13);
        due("but whole", x.gives(1023, 2), 17);
        due("once", x.gives(3, 5), 13);
        due("wholes", x.gives(0, 7), 17);
        due("1024", x.gives(1024, 0), OUTSIDE);
        due("-1", x.gives(-1, 0), OUTSIDE);
        due("8", x.gives(0, 8), OUTSIDE);
        due("-1", x.gives(0, -1), OUTSIDE);
        for (int far : FAR) due("far", x.gives(far, far), OUTSIDE);
    }

    private static void order() {
        promise = "promise 16";
        WordsFirst x = book("hj=79 10", "c=2 3", "g=5 1");
        // h, j, c, g: 0 + 10 + 13 + 14 * 7; c first: 3 + 3 + 13 + 14 * 7.
        due("sum", x.order(-1), 121);
        int[] row = {7, 9, 2, 6, 0, 1, 3, 4, 5, 8};
        for (int i = 0; i < 10; i++) due("order " + i, x.order(i), row[i]);
        due("10", x.order(10), NONE);
        due("-2", x.order(-2), NONE);
        for (int far : FAR) due("far", x.order(far), NONE);
        x.often(1, 11);
        due("changed", x.order(0), 2);
        // The greedy start with b is not the best one.
        WordsFirst y = book("b=1 5", "cde=234 30", "ce=24 1");
        due("no greed", y.order(0), 2);
        due("sum", y.order(-1), 1 + 31 + 36 * 7);
        due("then", y.order(1), 4);
    }

    private static void most() {
        promise = "promise 17";
        WordsFirst x = book("ab=01 10", "bc=12 10", "d=3 4", "de=35 9", "e=4 20", "f=5 4");
        due("one", x.most(1, 0, 0), 20);
        due("by e", x.most(1, 0, 1), 16);
        due("two", x.most(2, 0, 0), 24);
        due("the least", x.most(2, 0, 1), 24);
        due("with wholes", x.most(2, 1, 0), 34);
        due("signs", x.most(2, 1, 1), 24);
        due("the least of like ones", x.most(2, 1, 2), 1);
        due("none", x.most(0, 0, 0), 0);
        due("none", x.most(0, 0, 1), 0);
        due("wholes alone", x.most(0, 3, 2), 16 + 3);
        due("what is not given", x.most(10, 6, 2), 8);
        due("all", x.most(10, 6, 0), 57);
        due("signs", x.most(10, 6, 1), 1023);
        due("k signs even where fewer do", x.most(9, 6, 1), 511);
        due("11", x.most(11, 0, 0), OUTSIDE);
        due("-1", x.most(-1, 0, 0), OUTSIDE);
        due("7", x.most(0, 7, 0), OUTSIDE);
        due("-1", x.most(0, -1, 0), OUTSIDE);
        due("what", x.most(0, 0, 3), OUTSIDE);
        due("what", x.most(0, 0, -1), OUTSIDE);
    }

    private static void tale() {
        promise = "promise 18";
        WordsFirst x = book("ba=10 1", "ab=01 1", "aa=00 1", "c=2 1", "cd=23 1");
        due("none", x.tale(0, -1), 0);
        x.knows(0, 0, 3);
        row(x, 0, 0, 2, 1);
        x.knows(0, 0, 15);
        row(x, 0, 0, 2, 1);
        x.knows(1, 0, 12);
        row(x, 1, 3, 4);
        x.mix(1, 2, 3);
        row(x, 1);
        x.mix(1, -1, -1);
        x.knows(0, 0, 3);
        x.often(1, 999);
        row(x, 0, 0, 2, 1);
        // A word of one sign begins and ends with it.
        add(x, "a=0", 1);
        row(x, 0, 0, 2, 5, 1);
        due("-2", x.tale(0, -2), NONE);
        due("no child", x.tale(4, -1), UNKNOWN);
        due("no child", x.tale(-1, 99), UNKNOWN);
        for (int far : FAR) due("far", x.tale(0, far), NONE);
        WordsFirst y = book("a=0 1", "aa=00 1", "aaa=000 1", "aaaa=0000 1", "aaaaa=00000 1", "aba=010 1",
            "ab=01 1", "b=1 1", "bb=11 1", "bab=101 1", "ca=20 1", "bd=13 1");
        y.knows(2, 1, 4095);
        row(y, 2, 10, 0, 1, 2, 3, 4, 5, 6, 7, 8, 9, 11);
    }

    private static void row(WordsFirst x, int child, int... words) {
        due("how many", x.tale(child, -1), words.length);
        for (int i = 0; i < words.length; i++) due("tale " + i, x.tale(child, i), words[i]);
        due("behind", x.tale(child, words.length), NONE);
    }

    private static void answersAndClear() {
        promise = "promise 19";
        WordsFirst x = book("a=0 1");
        for (int i = 1; i <= 20; i++) due("answer", x.answer(0, i % 2 == 0), i);
        due("a 21st", x.answer(0, true), FULL);
        due("UNKNOWN ahead of FULL", x.answer(1, true), UNKNOWN);
        due("no word", x.answer(-1, true), UNKNOWN);
        for (int far : FAR) due("far", x.answer(far, true), UNKNOWN);
        promise = "promise 20";
        due("clear", x.clear(), 20);
        due("clear", x.clear(), 0);
        due("may", x.may(), 1024);
        due("again", x.answer(0, true), 1);
    }

    private static void may() {
        promise = "promise 21";
        WordsFirst x = book("abc=012 9", "c=2 1", "ad=13 1");
        due("all", x.may(), 1024);
        x.answer(0, false);
        due("one of three", x.may(), 896);
        x.answer(1, true);
        due("not c", x.may(), 384);
        x.answer(2, false);
        due("irregular: always wrong", x.may(), 384);
        x.often(2, 999);
        // Now "ad" goes by the rule and "abc" does not: abc wrong tells nothing, ad wrong does.
        due("by what is regular now", x.may(), 384);
        x.clear();
        x.answer(0, true);
        due("an irregular one right", x.may(), 0);
        x.clear();
        x.answer(1, true);
        x.answer(1, false);
        due("both", x.may(), 0);
    }

    private static void lacks() {
        promise = "promise 22";
        WordsFirst x = book("abc=012 9", "c=2 1");
        due("half", x.lacks(9, 0), 1);
        due("half", x.lacks(9, 1), 2);
        x.answer(0, false);
        due("up", x.lacks(0, 0), 4);
        due("low", x.lacks(0, 1), 7);
        x.answer(1, true);
        due("up", x.lacks(1, 0), 2);
        due("low", x.lacks(1, 1), 3);
        due("not c", x.lacks(2, 0), 0);
        due("by 1", x.lacks(2, 1), 1);
        x.answer(0, true);
        due("NO", x.lacks(0, 0), LOST - 5);
        due("UNKNOWN first", x.lacks(10, 2), LOST - 1);
        due("-1", x.lacks(-1, 0), LOST - 1);
        due("OUTSIDE ahead of NO", x.lacks(0, 2), LOST - 2);
        due("OUTSIDE ahead of NO", x.lacks(0, -1), LOST - 2);
    }

    private static void tells() {
        promise = "promise 23";
        WordsFirst x = book("abc=012 9", "ab=01 9", "d=3 1", "c=2 1", "ae=44 1");
        due("halves", x.tells(), 2);
        x.answer(2, true);
        due("the other half", x.tells(), 3);
        x.answer(3, true);
        due("a quarter by both", x.tells(), 0);
        x.answer(0, false);
        due("all is told: the least", x.tells(), 0);
        x.answer(4, true);
        due("MAY is none", x.tells(), 0);
        due("no words", new WordsFirst().tells(), NONE);
        WordsFirst y = book("ab=11 1", "b=1 9", "a=0 9");
        due("an irregular one tells nothing", y.tells(), 1);
    }

    private static void test() {
        promise = "promise 24";
        due("none", new WordsFirst().test(), 0);
        due("one word", book("abc=012 1").test(), 1);
        due("the least of like ones", book("abc=012 1", "cab=201 1").test(), 1);
        due("a sign alone", book("a=0 1", "b=1 1", "ab=01 1").test(), 3);
        due("shorter by two", book("ab=01 1", "bc=12 1", "abc=012 1", "a=0 1", "c=2 1").test(), 3);
        due("irregular ones are not asked", book("ab=01 9", "a=5 1", "b=1 1").test(), 5);
        due("only irregular signs", book("ab=12 1", "a=0 9", "b=0 9").test(), 6);
        WordsFirst x = book("ab=01 1", "bc=12 1");
        x.answer(0, true);
        due("answers tell nothing here", x.test(), 3);
    }

    private static void respelt() {
        promise = "promise 25";
        WordsFirst x = book("abc=010 5", "dc=12 5", "ed=20 3");
        // 0: a 5, c 5, d 3: a. 1: b 5, d 5: b. 2: c 5, e 3: c.
        int[][] rows = {{0, 1, 0}, {1, 2}, {2, 0}};
        for (int w = 0; w < 3; w++) {
            for (int i = 0; i < 5; i++) due("respelt", x.respelt(w, i), i < rows[w].length ? rows[w][i] : NONE);
        }
        x.often(2, 6);
        due("changed", x.respelt(0, 0), 3);
        due("5", x.respelt(0, 5), OUTSIDE);
        due("-1", x.respelt(0, -1), OUTSIDE);
        due("no word", x.respelt(3, 0), UNKNOWN);
        due("UNKNOWN ahead of OUTSIDE", x.respelt(3, 5), UNKNOWN);
        due("no word", x.respelt(-1, 0), UNKNOWN);
        for (int far : FAR) due("far", x.respelt(0, far), OUTSIDE);
    }

    private static void price() {
        promise = "promise 26";
        WordsFirst x = book("abc=010 5", "dc=12 5", "ed=20 3");
        due("price", x.price(0), 5 + 5 + 3 + 3);
        due("no clash", x.price(1), NONE);
        WordsFirst y = book("a=0 1", "ab=01 9", "c=1 2", "ac=00 1", "aa=01 1", "d=1 1");
        // 0: a; 1: b. "ab" stays, "aa" becomes "ab"; "c" and "d" become "b".
        due("the first two", y.price(1), 104);
        due("price", y.price(0), 2 + 1 + 1 + 1);
        // Two sounds that one sign has most are written alike.
        due("unlike sounds", book("a=0 1", "ab=12 1", "aab=112 1", "ba=20 1", "c=1 1").price(1), 4);
        due("lengths", book("a=0 1", "aa=00 1").price(1), NONE);
        due("2", x.price(2), OUTSIDE);
        due("-1", x.price(-1), OUTSIDE);
        for (int far : FAR) due("far", x.price(far), OUTSIDE);
    }

    private static void lessons() {
        promise = "promise 27";
        WordsFirst x = book("ab=01 10", "ac=02 8", "d=3 9");
        int[] due = {0, 10, 19, 27, 27};
        for (int n = 0; n < due.length; n++) due("lessons " + n, x.lessons(0, n), due[n]);
        x.knows(0, 0, 4);
        due("one knows c: a gives both", x.lessons(0, 1), 18);
        x.knows(0, 1, 4);
        due("and d whole", x.lessons(0, 1), 27);
        x.mix(0, 1, 9);
        due("b taken for j", x.lessons(0, 12), 17);
        x.knows(0, 0, 1023);
        due("none to learn", x.lessons(0, 0), 17);
        due("none to learn", x.lessons(0, 5), 17);
        // Just so many: what was guessed right is sounded wrong, when all are known.
        WordsFirst y = book("ab=01 5", "bb=22 9");
        due("b", y.lessons(1, 1), 9);
        due("both", y.lessons(1, 2), 9);
        y.often(0, 20);
        y.often(1, 30);
        due("b again", y.lessons(1, 1), 30);
        y.often(0, 40);
        due("a", y.lessons(1, 1), 40);
        due("a and another", y.lessons(1, 9), 40);
        due("all", y.lessons(1, 10), 30);
        due("all", y.lessons(1, 12), 30);
        due("13", x.lessons(0, 13), OUTSIDE);
        due("-1", x.lessons(0, -1), OUTSIDE);
        due("no child", x.lessons(4, 0), UNKNOWN);
        due("UNKNOWN ahead of OUTSIDE", x.lessons(-1, 13), UNKNOWN);
    }

    private static void shared() {
        promise = "promise 28";
        WordsFirst x = book("ab=01 10", "ac=02 8", "d=3 9");
        due("none", x.shared(0, -1), 0);
        due("one", x.shared(1, -1), 10);
        due("the last one", x.shared(1, 3), 1);
        due("not the first", x.shared(1, 0), 0);
        due("five", x.shared(5, -1), 49);
        int[] row = {1, 1, 1, 2};
        for (int c = 0; c < 4; c++) due("five of " + c, x.shared(5, c), row[c]);
        for (int c = 0; c < 4; c++) x.knows(c, 0, 1023);
        due("none to learn", x.shared(12, -1), 108);
        due("the last has them", x.shared(12, 3), 12);
        due("the first none", x.shared(12, 0), 0);
        x.knows(2, 0, 0);
        due("child 2", x.shared(3, 2), 3);
        due("together", x.shared(3, -1), 108);
        due("4", x.shared(0, 4), UNKNOWN);
        due("-2", x.shared(0, -2), UNKNOWN);
        due("UNKNOWN ahead of OUTSIDE", x.shared(13, 4), UNKNOWN);
        due("13", x.shared(13, -1), OUTSIDE);
        due("-1", x.shared(-1, 0), OUTSIDE);
    }

    private static void itself() {
        promise = "promise 29";
        WordsFirst x = book("a=0 20", "b=1 30", "c=2 40", "d=3 10");
        due("none at 1", x.itself(0, 1, 0), 0);
        due("all at 0", x.itself(0, 0, 0), 4);
        due("all at 0", x.itself(0, 0, 1), 100);
        x.knows(0, 0, 1);
        due("200 thousandths", x.itself(0, 200, 0), 3);
        due("201", x.itself(0, 201, 0), 0);
        due("its share", x.itself(0, 201, 1), 20);
        due("nothing is kept", x.share(0), 20);
        x.knows(0, 1, 15);
        due("it can read all", x.itself(0, 1000, 0), 0);
        due("it can read all", x.itself(0, 1000, 1), 100);
        due("1001", x.itself(0, 1001, 0), OUTSIDE);
        due("-1", x.itself(0, -1, 0), OUTSIDE);
        due("what 2", x.itself(0, 0, 2), OUTSIDE);
        due("what -1", x.itself(0, 0, -1), OUTSIDE);
        due("no child", x.itself(4, 0, 0), UNKNOWN);
        due("UNKNOWN ahead of OUTSIDE", x.itself(-1, 1001, 2), UNKNOWN);
    }

    private static void line() {
        promise = "promise 30";
        WordsFirst x = book("a=0 20", "b=1 31", "c=2 40");
        due("nothing read", x.line(0), 0);
        x.knows(0, 0, 1);
        due("cut", x.line(0), 219);
        due("by it", x.itself(0, 219, 1), 91);
        due("by one more", x.itself(0, 220, 1), 20);
        x.knows(0, 0, 7);
        due("all read", x.line(0), 1000);
        due("4", x.line(4), UNKNOWN);
        due("-1", x.line(-1), UNKNOWN);
        for (int far : FAR) due("far", x.line(far), UNKNOWN);
    }

    private static void images() {
        promise = "promises 31, 32";
        WordsFirst x = book("ab=01 20", "b=1 31");
        due("not kept", x.restore(0), STATE);
        due("not kept", x.restore(1), STATE);
        x.knows(2, 0, 3);
        x.knows(2, 1, 2);
        x.mix(2, 8, 7);
        x.answer(1, false);
        x.say('a');
        due("image", x.image(1), 1);
        due("the other is not kept", x.restore(0), STATE);
        add(x, "c=2", 40);
        x.often(0, 1);
        x.knows(2, 0, 1023);
        x.knows(2, 1, 4);
        x.mix(2, 0, 1);
        x.answer(2, true);
        due("order", x.order(0), 2);
        due("tale", x.tale(2, -1), 1);
        due("lessons", x.lessons(2, 12), 40);
        due("image", x.image(0), 1);
        x.say('c');
        x.say('=');
        due("restore", x.restore(1), 1);
        due("the PAD stays", x.told(0), 2);
        int[] whats = {1, 2, 3, 12, 22, 32};
        int[] then = {2, 1, 51, 3, 2, 78};
        for (int i = 0; i < whats.length; i++) due("told " + whats[i], x.told(whats[i]), then[i]);
        due("often", x.about(0, 1), 20);
        due("no word 2", x.about(2, 0), UNKNOWN);
        due("common", x.common(2), NONE);
        due("may", x.may(), 512);
        due("order", x.order(0), 1);
        due("tale", x.tale(2, -1), 2);
        due("lessons", x.lessons(2, 12), 51);
        x.often(0, 2);
        due("again", x.restore(1), 1);
        due("an image is not the state itself", x.about(0, 1), 20);
        due("the other image", x.restore(0), 1);
        due("three words", x.told(1), 3);
        due("told", x.told(32), 1);
        due("image again", x.image(1), 1);
        due("restore", x.restore(1), 1);
        due("three words", x.told(1), 3);
        due("image 2", x.image(2), OUTSIDE);
        due("image -1", x.image(-1), OUTSIDE);
        due("restore 2", x.restore(2), OUTSIDE);
        due("restore -1", x.restore(-1), OUTSIDE);
        for (int far : FAR) {
            due("far", x.image(far), OUTSIDE);
            due("far", x.restore(far), OUTSIDE);
        }
    }

    private static void told() {
        promise = "promise 33";
        WordsFirst x = book("ab=01 20", "b=1 31");
        x.say('!');
        x.answer(0, true);
        for (int c = 0; c < 4; c++) {
            x.knows(c, 0, 100 + c);
            x.knows(c, 1, c);
            x.mix(c, 9, c);
        }
        int[] first = {1, 2, 1, 51};
        for (int i = 0; i < 4; i++) due("told " + i, x.told(i), first[i]);
        for (int c = 0; c < 4; c++) {
            due("signs", x.told(10 + c), 100 + c);
            due("wholes", x.told(20 + c), c);
            due("mixed up", x.told(30 + c), 10 * c + 9);
        }
        for (int what : new int[] {-1, 4, 9, 14, 19, 24, 29, 34, Integer.MIN_VALUE, Integer.MAX_VALUE}) due("OUTSIDE " + what, x.told(what), OUTSIDE);
    }

    /** Refused calls change nothing. */
    private static void refusalsChangeNothing() {
        promise = "refusals";
        WordsFirst x = book(TWELVE);
        x.knows(1, 0, 77);
        x.mix(1, 2, 3);
        spell(x, "hello, hello ");
        int signs = x.told(0);
        x.word(5);
        x.word(0);
        x.often(12, 5);
        x.often(0, 1000);
        x.knows(1, 0, 1024);
        x.knows(1, 2, 3);
        x.mix(1, 5, 5);
        x.mix(1, -1, 5);
        x.answer(12, true);
        x.restore(0);
        due("signs", x.told(0), signs);
        due("words", x.told(1), 12);
        due("answers", x.told(2), 0);
        due("often", x.told(3), 78);
        due("knows", x.told(11), 77);
        due("mixed", x.told(31), 23);
        due("final", Modifier.isFinal(WordsFirst.class.getModifiers()) ? 1 : 0, 1);
    }
}
