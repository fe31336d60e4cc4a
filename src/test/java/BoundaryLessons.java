/** Boundaries of part 5, lessons, images and what is told: promises 27 to 33. */
final class BoundaryLessons {
    private static final int[] NO_LESSONS = {Checks.LEAST, -2, -1, 13, 14, Checks.GREATEST};

    private BoundaryLessons() {
    }

    static void run(Checks c) {
        lessonsRefused(c);
        lessons(c);
        sharedRefused(c);
        sharedOfSeveral(c);
        sharedNumbers(c);
        itselfRefused(c);
        itselfLine(c);
        itselfRounds(c);
        line(c);
        imageRefused(c);
        imageKeeps(c);
        imageAgain(c);
        imageOfOtherWords(c);
        imageOfFullBook(c);
        restoreRefused(c);
        told(c);
        toldLimits(c);
    }

    private static void lessonsRefused(Checks c) {
        c.sentence(27, "The greatest SHARE of a CHILD by n LESSONS (0 to 12). UNKNOWN; OUTSIDE.");
        WordsFirst x = Checks.book("a=0 5");
        c.due("the fewest LESSONS", x.lessons(0, 0), 0);
        c.due("the most LESSONS", x.lessons(3, 12), 5);
        for (int n : NO_LESSONS) c.due("lessons(3, " + n + ")", x.lessons(3, n), Checks.OUTSIDE);
        for (int child : BoundaryChildren.NO_CHILDREN) {
            c.due("lessons(" + child + ", 0)", x.lessons(child, 0), Checks.UNKNOWN);
            c.due("lessons(" + child + ", 13)", x.lessons(child, 13), Checks.UNKNOWN);
            c.due("lessons(" + child + ", -1)", x.lessons(child, -1), Checks.UNKNOWN);
        }
        for (int n = 0; n <= 12; n++) c.due("an empty BOOK, " + n, new WordsFirst().lessons(0, n), 0);
        c.due("no LESSON is given by asking", x.told(13), 0);
    }

    private static void lessons(Checks c) {
        c.sentence(27, "Of a CHILD by n LESSONS: the greatest SHARE by n SIGNS more (of those that it does not know; by all, if there are fewer)");
        WordsFirst x = Checks.bookOf(10, 1);
        for (int n = 0; n <= 12; n++) c.due("of ten SIGNS by " + n, x.lessons(0, n), Math.min(10, n));
        x.knows(1, 0, 1023 - 512);
        for (int n = 0; n <= 12; n++) c.due("of the last SIGN by " + n, x.lessons(1, n), Math.min(10, 9 + n));
        x.knows(2, 0, 1023);
        for (int n = 0; n <= 12; n++) c.due("of none by " + n, x.lessons(2, n), 10);
        // By just n: with both SIGNS "ab" is sounded as none, with a alone it is guessed right.
        WordsFirst y = Checks.book("ab=01 40", "bb=22 30");
        int[] dues = {0, 40, 40, 40, 40, 40, 40, 40, 40, 40, 30, 30, 30};
        for (int n = 0; n <= 12; n++) c.due("where more is less, by " + n, y.lessons(0, n), dues[n]);
        y.knows(0, 0, 1);
        int[] less = {40, 40, 40, 40, 40, 40, 40, 40, 40, 30, 30, 30, 30};
        for (int n = 0; n <= 12; n++) c.due("where a is known, by " + n, y.lessons(0, n), less[n]);
        y.knows(0, 0, 3);
        for (int n = 0; n <= 12; n++) c.due("where both are known, by " + n, y.lessons(0, n), 30);
        WordsFirst both = Checks.book("a=0 5", "ab=01 9");
        c.due("one sounded, one guessed, by one SIGN", both.lessons(0, 1), 14);
        WordsFirst full = Checks.bookOf(12, 1);
        for (int n = 0; n <= 12; n++) c.due("of a full BOOK by " + n, full.lessons(0, n), Math.min(12, 2 * n - Math.max(0, n - 2)));
        y.knows(2, 1, 3);
        for (int n = 0; n <= 12; n++) c.due("two WHOLES and no SIGN, by " + n, y.lessons(2, n), 70);
        y.knows(0, 1, 1);
        c.due("WHOLES stay", y.lessons(0, 12), 70);
        y.mix(0, 1, 9);
        c.due("what is MIXED UP stays", y.lessons(0, 12), 40);
    }

    private static void sharedRefused(Checks c) {
        c.sentence(28, "SHARED: their SHARES together (child = -1), LESSONS of a CHILD. UNKNOWN; OUTSIDE.");
        WordsFirst x = Checks.book("a=0 5");
        for (int child : new int[] {Checks.LEAST, -3, -2, 4, 5, Checks.GREATEST}) {
            c.due("shared(0, " + child + ")", x.shared(0, child), Checks.UNKNOWN);
            c.due("shared(13, " + child + ")", x.shared(13, child), Checks.UNKNOWN);
            c.due("shared(-1, " + child + ")", x.shared(-1, child), Checks.UNKNOWN);
        }
        for (int n : NO_LESSONS) {
            for (int child = -1; child < 4; child++) c.due("shared(" + n + ", " + child + ")", x.shared(n, child), Checks.OUTSIDE);
        }
        c.due("no LESSON, together", x.shared(0, -1), 0);
        for (int child = 0; child < 4; child++) c.due("no LESSON of " + child, x.shared(0, child), 0);
        c.due("twelve LESSONS, together", x.shared(12, -1), 20);
        c.due("an empty BOOK, together", new WordsFirst().shared(12, -1), 0);
    }

    private static void split(Checks c, WordsFirst x, int n, int sum, int... row) {
        c.due(n + " together", x.shared(n, -1), sum);
        for (int child = 0; child < 4; child++) c.due(n + " of CHILD " + child, x.shared(n, child), row[child]);
    }

    private static void sharedOfSeveral(Checks c) {
        c.sentence(28, "of several the first by CHILD 0's LESSONS, then CHILD 1's (the fewest first)");
        WordsFirst empty = new WordsFirst();
        split(c, empty, 1, 0, 0, 0, 0, 1);
        split(c, empty, 12, 0, 0, 0, 0, 12);
        WordsFirst x = Checks.book("a=0 5");
        split(c, x, 1, 5, 0, 0, 0, 1);
        split(c, x, 2, 10, 0, 0, 1, 1);
        split(c, x, 3, 15, 0, 1, 1, 1);
        split(c, x, 4, 20, 1, 1, 1, 1);
        split(c, x, 5, 20, 1, 1, 1, 2);
        split(c, x, 12, 20, 1, 1, 1, 9);
        x.knows(3, 0, 1);
        split(c, x, 1, 10, 0, 0, 1, 0);
        x.knows(2, 0, 1);
        split(c, x, 1, 15, 0, 1, 0, 0);
        x.knows(1, 0, 1);
        split(c, x, 1, 20, 1, 0, 0, 0);
        x.knows(0, 0, 1);
        split(c, x, 1, 20, 0, 0, 0, 1);
        x.knows(3, 0, 1023);
        split(c, x, 12, 20, 0, 0, 0, 12);
    }

    private static void sharedNumbers(Checks c) {
        c.sentence(28, "SHARED among the four: n LESSONS (0 to 12) so that their SHARES are greatest together");
        // b alone reads "ba" by a guess: so one each is more than two for one.
        WordsFirst x = Checks.book("bc=12 9", "bd=13 30", "ba=10 31", "a=0 1");
        split(c, x, 1, 31, 0, 0, 0, 1);
        split(c, x, 2, 62, 0, 0, 1, 1);
        WordsFirst y = Checks.book("aa=01 999", "ab=02 998", "ac=03 997");
        // "aa" is sounded as none, and the others are guessed as "aa": so a alone reads nothing.
        split(c, y, 1, 0, 0, 0, 0, 1);
        split(c, y, 2, 998, 0, 0, 0, 2);
        split(c, y, 3, 998 + 997, 0, 0, 0, 3);
        split(c, y, 4, 998 + 998, 0, 0, 2, 2);
        split(c, y, 5, 998 + 997 + 998, 0, 0, 2, 3);
        split(c, y, 12, 4 * (998 + 997), 3, 3, 3, 3);
        // All n are given out, even where fewer would leave more.
        WordsFirst less = Checks.book("ab=01 40", "bb=22 30");
        for (int child = 0; child < 4; child++) less.knows(child, 0, 1023 - 2);
        split(c, less, 1, 150, 0, 0, 0, 1);
        split(c, less, 12, 150, 0, 0, 0, 12);
        split(c, less, 0, 160, 0, 0, 0, 0);
    }

    private static void itselfRefused(Checks c) {
        c.sentence(29, "ITSELF: ROUNDS (what = 0), the SHARE then (1). UNKNOWN; OUTSIDE.");
        WordsFirst x = Checks.book("a=0 5");
        for (int child : BoundaryChildren.NO_CHILDREN) {
            c.due("CHILD " + child, x.itself(child, 0, 0), Checks.UNKNOWN);
            c.due("CHILD " + child + ", no LINE", x.itself(child, 1001, 0), Checks.UNKNOWN);
            c.due("CHILD " + child + ", no what", x.itself(child, 0, 2), Checks.UNKNOWN);
        }
        for (int line : new int[] {Checks.LEAST, -1, 1001, 1002, Checks.GREATEST}) {
            c.due("LINE " + line, x.itself(0, line, 0), Checks.OUTSIDE);
            c.due("LINE " + line + ", SHARE", x.itself(0, line, 1), Checks.OUTSIDE);
        }
        for (int what : new int[] {Checks.LEAST, -1, 2, 3, Checks.GREATEST}) c.due("what " + what, x.itself(3, 1000, what), Checks.OUTSIDE);
        c.due("the least LINE", x.itself(3, 0, 0), 1);
        c.due("the greatest LINE", x.itself(3, 1000, 0), 0);
        c.due("nothing becomes WHOLE by asking", x.told(23), 0);
        c.due("nor does its SHARE grow", x.share(3), 0);
    }

    private static void byItself(Checks c, WordsFirst x, int line, int rounds, int share) {
        c.due("ROUNDS by " + line, x.itself(0, line, 0), rounds);
        c.due("SHARE by " + line, x.itself(0, line, 1), share);
    }

    private static void itselfLine(Checks c) {
        c.sentence(29, "a CHILD reads by ROUNDS: when its SHARE is LINE thousandths of all OFTEN or more (0 to 1000)");
        WordsFirst x = Checks.book("a=0 1", "b=1 2");
        byItself(c, x, 0, 2, 3);
        byItself(c, x, 1, 0, 0);
        x.knows(0, 0, 1);
        byItself(c, x, 333, 1, 3);
        byItself(c, x, 334, 0, 1);
        byItself(c, x, 1000, 0, 1);
        WordsFirst half = Checks.book("a=0 7", "b=1 7");
        half.knows(0, 0, 1);
        byItself(c, half, 500, 1, 14);
        byItself(c, half, 501, 0, 7);
        WordsFirst great = Checks.bookOf(12, 999);
        great.knows(0, 1, 2047);
        byItself(c, great, 916, 1, 12 * 999);
        byItself(c, great, 917, 0, 11 * 999);
    }

    private static void itselfRounds(Checks c) {
        c.sentence(29, "the most OFTEN WORD that it can not read, the least such, becomes WHOLE");
        WordsFirst x = Checks.bookOf(12, 999);
        byItself(c, x, 0, 12, 12 * 999);
        // Guessed as another one it can not read it; what becomes WHOLE changes no guess.
        WordsFirst guessed = Checks.book("ab=01 9", "ac=02 1");
        guessed.knows(0, 0, 1);
        byItself(c, guessed, 900, 1, 10);
        byItself(c, guessed, 901, 0, 9);
        c.sentence(29, "else, or when it CAN READ all, nothing does any more. ROUNDS until nothing does; what its SHARE is then.");
        x.knows(0, 0, 1023);
        for (int line : new int[] {0, 1, 999, 1000}) byItself(c, x, line, 0, 12 * 999);
        WordsFirst empty = new WordsFirst();
        for (int line : new int[] {0, 1, 1000}) byItself(c, empty, line, 0, 0);
    }

    private static void line(Checks c) {
        c.sentence(30, "HIGHEST LINE: the greatest LINE by which it comes to all.");
        c.due("an empty BOOK: it CAN READ all", new WordsFirst().line(0), 1000);
        WordsFirst x = Checks.book("a=0 999", "b=1 1");
        c.due("nothing is read", x.line(0), 0);
        x.knows(0, 0, 1);
        c.due("all but one thousandth", x.line(0), 999);
        c.due("by it", x.itself(0, 999, 1), 1000);
        c.due("by one more", x.itself(0, 1000, 1), 999);
        x.knows(0, 0, 2);
        c.due("one thousandth", x.line(0), 1);
        x.knows(0, 0, 3);
        c.due("all is read", x.line(0), 1000);
        WordsFirst great = Checks.bookOf(12, 999);
        great.knows(3, 1, 2047);
        c.due("eleven of twelve, cut", great.line(3), 916);
        c.sentence(30, "HIGHEST LINE. UNKNOWN.");
        for (int child : BoundaryChildren.NO_CHILDREN) c.due("line(" + child + ")", x.line(child), Checks.UNKNOWN);
    }

    private static void imageRefused(Checks c) {
        c.sentence(31, "All but the PAD is kept in an IMAGE (0, 1): 1. OUTSIDE.");
        WordsFirst x = new WordsFirst();
        for (int n : new int[] {Checks.LEAST, -1, 2, 3, Checks.GREATEST}) {
            c.due("image(" + n + ")", x.image(n), Checks.OUTSIDE);
            c.due("nothing is kept", x.restore(0), Checks.STATE);
            c.due("nothing is kept", x.restore(1), Checks.STATE);
        }
        c.due("the first", x.image(0), 1);
        c.due("the last", x.image(1), 1);
    }

    private static WordsFirst rich() {
        WordsFirst x = Checks.book("ab=01 20", "b=1 31", "aa=09 5");
        for (int child = 0; child < 4; child++) {
            x.knows(child, 0, 3 + 4 * child);
            x.knows(child, 1, 4 + child % 3);
            x.mix(child, child, 9);
        }
        x.answer(1, true);
        x.answer(0, false);
        return x;
    }

    /** All that told, the WORDS and MAY show of rich(). */
    private static void isRich(Checks c, WordsFirst x) {
        int[] whats = {1, 2, 3, 10, 11, 12, 13, 20, 21, 22, 23, 30, 31, 32, 33};
        int[] dues = {3, 2, 56, 3, 7, 11, 15, 4, 5, 6, 4, 9, 19, 29, 39};
        for (int i = 0; i < whats.length; i++) c.due("told(" + whats[i] + ")", x.told(whats[i]), dues[i]);
        int[][] words = {{2, 20, 3, 1, 0, 1, 0, 1}, {1, 31, 2, 1, 1, Checks.NONE, 1, Checks.NONE}, {2, 5, 1, 0, 0, 0, 0, 9}};
        int[] of = {0, 1, 2, 3, 10, 11, 20, 21};
        for (int word = 0; word < 3; word++) {
            for (int i = 0; i < of.length; i++) c.due("about(" + word + ", " + of[i] + ")", x.about(word, of[i]), words[word][i]);
        }
        c.due("no WORD more", x.about(3, 0), Checks.UNKNOWN);
        c.due("MAY: a is lacking, b is not", x.may(), 256);
    }

    private static void imageKeeps(Checks c) {
        c.sentence(32, "It is as it was when it was kept: 1.");
        for (int n = 0; n < 2; n++) {
            WordsFirst x = rich();
            isRich(c, x);
            x.image(n);
            Checks.add(x, "cde=234", 900);
            x.often(0, 999);
            for (int child = 0; child < 4; child++) {
                x.knows(child, 0, 1023);
                x.knows(child, 1, 15);
                x.mix(child, -1, -1);
            }
            x.clear();
            x.answer(3, false);
            c.due("restore(" + n + ")", x.restore(n), 1);
            isRich(c, x);
            c.due("restore(" + n + ") again", x.restore(n), 1);
            isRich(c, x);
            WordsFirst y = new WordsFirst();
            y.image(n);
            Checks.add(y, "a=0", 1);
            y.knows(0, 1, 1);
            y.answer(0, true);
            c.due("an empty BOOK comes back", y.restore(n), 1);
            for (int what = 0; what < 4; what++) c.due("told(" + what + ")", y.told(what), 0);
            c.due("no WORD, no WHOLE", y.told(20), 0);
            c.due("the same letters may come again", Checks.add(y, "a=0", 1), 0);
        }
        c.sentence(31, "All but the PAD is kept");
        WordsFirst x = rich();
        Checks.spell(x, "c=");
        x.image(0);
        x.say('2');
        c.due("restore", x.restore(0), 1);
        c.due("the PAD is as it is, not as it was", x.told(0), 3);
        c.due("and has no FAULT", x.fault(), Checks.NONE);
        c.due("and becomes a WORD", x.word(7), 3);
        c.due("restore", x.restore(0), 1);
        c.due("an empty PAD stays empty", x.told(0), 0);
    }

    private static void imageAgain(Checks c) {
        c.sentence(31, "is kept in an IMAGE (0, 1)");
        WordsFirst x = Checks.book("a=0 1");
        x.image(0);
        x.often(0, 2);
        x.image(1);
        x.often(0, 3);
        x.restore(0);
        c.due("the one", x.about(0, 1), 1);
        x.restore(1);
        c.due("the other", x.about(0, 1), 2);
        x.often(0, 4);
        x.image(0);
        x.restore(1);
        c.due("the other is not changed by the one", x.about(0, 1), 2);
        x.restore(0);
        c.due("kept anew", x.about(0, 1), 4);
        x.often(0, 5);
        x.restore(0);
        c.due("what is changed behind restoring does not change it", x.about(0, 1), 4);
    }

    private static void isOf(Checks c, WordsFirst x, int word, int... due) {
        int[] whats = {0, 1, 2, 3, 10, 11, 12, 13, 14, 20, 21, 22, 23, 24};
        for (int i = 0; i < whats.length; i++) c.due("about(" + word + ", " + whats[i] + ")", x.about(word, whats[i]), due[i]);
    }

    /** The same numbers are other WORDS in the two IMAGES: nothing of the one may stay behind in the other. */
    private static void imageOfOtherWords(Checks c) {
        c.sentence(32, "It is as it was when it was kept");
        WordsFirst x = new WordsFirst();
        x.image(0);
        Checks.add(x, "abc=012", 5);
        Checks.add(x, "cbbbb=21111", 4);
        x.knows(0, 0, 7);
        x.answer(0, true);
        x.image(1);
        x.restore(0);
        for (String text : new String[] {"de=34", "d=3", "edded=43343"}) Checks.add(x, text, 7);
        x.knows(0, 0, 24);
        x.answer(1, false);
        c.due("the longest TALE there", x.tale(0, -1), 3);
        c.due("ORDER there", x.order(0), 3);
        c.due("TEST there", x.test(), 3);
        c.due("restore(1)", x.restore(1), 1);
        isOf(c, x, 0, 3, 5, 7, 1, 0, 1, 2, Checks.NONE, Checks.NONE, 0, 1, 2, Checks.NONE, Checks.NONE);
        isOf(c, x, 1, 5, 4, 6, 1, 2, 1, 1, 1, 1, 2, 1, 1, 1, 1);
        c.due("two WORDS", x.about(2, 0), Checks.UNKNOWN);
        c.due("COMMON", x.common(3), Checks.NONE);
        c.due("SHARE", x.share(0), 9);
        c.due("LESSONS", x.lessons(0, 0), 9);
        c.due("MAY", x.may(), 128);
        c.due("TEST", x.test(), 3);
        c.due("PRICE", x.price(0), 0);
        c.due("TALE", x.tale(0, -1), 2);
        c.due("its second", x.tale(0, 1), 1);
        c.due("ORDER, the sum", x.order(-1), 4 + 9 * 8);
        c.due("ORDER, the first", x.order(0), 1);
        x.restore(0);
        Checks.add(x, "j=9", 1);
        Checks.add(x, "cb=21", 2);
        isOf(c, x, 0, 1, 1, 512, 1, 9, Checks.NONE, Checks.NONE, Checks.NONE, Checks.NONE, 9, Checks.NONE, Checks.NONE, Checks.NONE, Checks.NONE);
        c.due("what j gives", x.gives(512, 0), 1);
        x.knows(0, 1, 3);
        c.due("no row of two", x.tale(0, -1), 1);
        c.due("no ANSWERS", x.may(), 1024);
    }

    /** Twelve WORDS of five SIGNS, each sign and sound turned on by so much. */
    private static void addTwelve(WordsFirst x, int turn) {
        for (int word = 0; word < 12; word++) {
            StringBuilder text = new StringBuilder("=");
            for (int place = 0; place < 5; place++) {
                int number = (word + turn + place * (1 + word / 10)) % 10;
                text.insert(place, (char) ('a' + number)).append((char) ('0' + number));
            }
            Checks.add(x, text.toString(), 1 + word + turn);
        }
    }

    private static void imageOfFullBook(Checks c) {
        c.sentence(32, "It is as it was when it was kept: 1. OUTSIDE");
        WordsFirst x = new WordsFirst();
        x.image(0);
        addTwelve(x, 0);
        x.image(1);
        x.restore(0);
        addTwelve(x, 3);
        c.due("restore(1)", x.restore(1), 1);
        for (int word = 0; word < 12; word++) {
            c.due("OFTEN of " + word, x.about(word, 1), 1 + word);
            for (int place = 0; place < 5; place++) {
                int number = (word + place * (1 + word / 10)) % 10;
                c.due("SIGN " + place + " of " + word, x.about(word, 10 + place), number);
                c.due("SOUND " + place + " of " + word, x.about(word, 20 + place), number);
            }
        }
    }

    private static void restoreRefused(Checks c) {
        c.sentence(32, "OUTSIDE; STATE: it was not.");
        WordsFirst x = rich();
        for (int round = 0; round < 3; round++) {
            for (int n : new int[] {Checks.LEAST, -1, 2, 3, Checks.GREATEST}) c.due("restore(" + n + ")", x.restore(n), Checks.OUTSIDE);
            c.due("restore(0), kept from the second round on", x.restore(0), round > 0 ? 1 : Checks.STATE);
            c.due("restore(1), kept from the third round on", x.restore(1), round > 1 ? 1 : Checks.STATE);
            isRich(c, x);
            if (round < 2) x.image(round);
        }
        WordsFirst second = new WordsFirst();
        second.image(1);
        c.due("the first was not kept", second.restore(0), Checks.STATE);
        second.restore(1);
        c.due("nor is it by restoring the second", second.restore(0), Checks.STATE);
        c.due("another object's is another", new WordsFirst().restore(1), Checks.STATE);
    }

    private static void told(Checks c) {
        c.sentence(33, "0 signs, 1 WORDS, 2 ANSWERS, 3 OFTEN of all, together, 10 to 13 SIGNS, 20 to 23 WHOLES of CHILDREN, 30 to 33 what is MIXED UP. OUTSIDE.");
        for (WordsFirst x : new WordsFirst[] {new WordsFirst(), rich()}) {
            int[] none = {Checks.LEAST, -1, 4, 5, 9, 14, 15, 19, 24, 25, 29, 34, 35, 40, Checks.LEAST + 9, Checks.LEAST + 33, Checks.GREATEST};
            for (int what : none) c.due("told(" + what + ")", x.told(what), Checks.OUTSIDE);
        }
        isRich(c, rich());
    }

    private static void toldLimits(Checks c) {
        c.sentence(33, "OFTEN of all, together");
        WordsFirst x = Checks.bookOf(12, 999);
        for (int i = 0; i < 14; i++) x.say('!');
        for (int i = 0; i < 20; i++) x.answer(0, true);
        for (int child = 0; child < 4; child++) {
            x.knows(child, 0, 1023);
            x.knows(child, 1, 4095);
            x.mix(child, 9, 8);
        }
        int[] full = {14, 12, 20, 12 * 999};
        for (int what = 0; what < 4; what++) c.due("full, told(" + what + ")", x.told(what), full[what]);
        for (int child = 0; child < 4; child++) {
            c.due("all SIGNS", x.told(10 + child), 1023);
            c.due("all WHOLES", x.told(20 + child), 4095);
            c.due("the greatest two", x.told(30 + child), 89);
            x.mix(child, 1, 0);
            c.due("the least two", x.told(30 + child), 1);
        }
    }
}
