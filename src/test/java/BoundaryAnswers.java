/** Boundaries of part 4, answers and spelling: promises 19 to 26. */
final class BoundaryAnswers {
    private static final int[] NO_SIGNS = {Checks.LEAST, -2, -1, 10, 11, Checks.GREATEST};

    private BoundaryAnswers() {
    }

    static void run(Checks c) {
        answersFull(c);
        answerRefused(c);
        clear(c);
        mayNumbers(c);
        mayReads(c);
        lacksRefused(c);
        lacks(c);
        tellsNone(c);
        tellsOfSeveral(c);
        testNone(c);
        testToldApart(c);
        testOfSeveral(c);
        respeltPlaces(c);
        respeltOfSeveral(c);
        price(c);
        clash(c);
    }

    private static void answersFull(Checks c) {
        c.sentence(19, "what one who lacks some SIGNS read: a WORD, right or wrong (20 at most; none at first)");
        WordsFirst x = Checks.book("a=0 1");
        c.due("none at first", x.told(2), 0);
        for (int i = 1; i <= 20; i++) c.due("ANSWER " + i, x.answer(0, true), i);
        c.due("a 21st, right", x.answer(0, true), Checks.FULL);
        c.due("a 21st, wrong", x.answer(0, false), Checks.FULL);
        c.due("ANSWERS", x.told(2), 20);
        c.due("what was refused is not heard", x.may(), 512);
        c.sentence(19, "An ANSWER: how many. UNKNOWN; FULL.");
        for (int word : new int[] {Checks.LEAST, -1, 1, 12, Checks.GREATEST}) c.due("WORD " + word + ", 20 ANSWERS", x.answer(word, true), Checks.UNKNOWN);
        x.image(0);
        x.clear();
        c.due("one again", x.answer(0, true), 1);
        x.restore(0);
        c.due("full again", x.answer(0, true), Checks.FULL);
    }

    private static void answerRefused(Checks c) {
        c.sentence(19, "UNKNOWN -1 (there is no such WORD, CHILD, SIGN)");
        WordsFirst x = Checks.bookOf(12, 1);
        for (int word : new int[] {Checks.LEAST, -1, 12, 13, Checks.GREATEST}) {
            c.due("answer(" + word + ", true)", x.answer(word, true), Checks.UNKNOWN);
            c.due("answer(" + word + ", false)", x.answer(word, false), Checks.UNKNOWN);
        }
        c.due("none yet", x.told(2), 0);
        c.due("the first WORD", x.answer(0, true), 1);
        c.due("the last WORD", x.answer(11, false), 2);
        c.due("an empty BOOK", new WordsFirst().answer(0, true), Checks.UNKNOWN);
    }

    private static void clear(Checks c) {
        c.sentence(20, "ANSWERS go: how many there were.");
        WordsFirst x = Checks.book("a=0 1");
        c.due("of none", x.clear(), 0);
        x.answer(0, true);
        c.due("of one", x.clear(), 1);
        for (int i = 0; i < 20; i++) x.answer(0, false);
        c.due("of 20", x.clear(), 20);
        c.due("twice", x.clear(), 0);
        c.due("ANSWERS", x.told(2), 0);
        c.due("MAY", x.may(), 1024);
        for (int i = 1; i <= 20; i++) c.due("again ANSWER " + i, x.answer(0, true), i);
    }

    private static void mayNumbers(Checks c) {
        c.sentence(21, "MAY: sets of SIGNS that he may lack, of all 1,024, such that all ANSWERS are so.");
        c.due("an empty BOOK", new WordsFirst().may(), 1024);
        WordsFirst x = Checks.book("abcde=01234 1", "fghij=56789 1", "a=0 1");
        c.due("no ANSWERS", x.may(), 1024);
        x.answer(0, true);
        c.due("five SIGNS are known", x.may(), 32);
        x.answer(1, true);
        c.due("all are known: the empty set", x.may(), 1);
        x.answer(2, false);
        c.due("none", x.may(), 0);
        x.clear();
        x.answer(0, false);
        c.due("one of five is lacking", x.may(), 31 * 32);
        x.answer(1, false);
        c.due("one of five, twice", x.may(), 31 * 31);
        x.answer(1, false);
        c.due("the same ANSWER again", x.may(), 31 * 31);
        x.answer(2, true);
        c.due("not a", x.may(), 15 * 31);
        WordsFirst y = Checks.book("a=0 1", "b=1 1", "c=2 1", "d=3 1", "e=4 1", "f=5 1", "g=6 1", "h=7 1", "i=8 1", "j=9 1");
        for (int word = 0; word < 10; word++) {
            y.answer(word, false);
            c.due("so many are lacking: " + (word + 1), y.may(), 1 << 9 - word);
        }
    }

    private static void mayReads(Checks c) {
        c.sentence(21, "what is REGULAR and has no SIGN that he lacks he reads right, all else wrong");
        WordsFirst x = Checks.book("a=0 9", "ab=31 1");
        x.answer(1, false);
        c.due("what is not REGULAR is read wrong by all", x.may(), 1024);
        x.answer(1, true);
        c.due("and right by none", x.may(), 0);
        x.answer(0, true);
        c.due("whatever is answered behind it", x.may(), 0);
        c.sentence(21, "He knows no WORD whole");
        WordsFirst y = Checks.book("a=0 9");
        y.knows(0, 1, 1);
        y.answer(0, true);
        c.due("CHILDREN do not matter", y.may(), 512);
        // ANSWERS are held against what is REGULAR now.
        WordsFirst z = Checks.book("ab=01 1", "a=5 9");
        z.answer(0, true);
        c.due("not REGULAR", z.may(), 0);
        z.often(0, 9);
        c.due("REGULAR now", z.may(), 256);
    }

    private static void lacksRefused(Checks c) {
        c.sentence(22, "LACKS. UNKNOWN, OUTSIDE, NO: MAY is none (LOST less 1, 2, 5).");
        WordsFirst x = Checks.book("a=0 1");
        for (int round = 0; round < 2; round++) {
            for (int sign : NO_SIGNS) {
                c.due("SIGN " + sign, x.lacks(sign, 0), Checks.LOST - 1);
                c.due("SIGN " + sign + ", no part", x.lacks(sign, 2), Checks.LOST - 1);
            }
            for (int part : new int[] {Checks.LEAST, -1, 2, 3, Checks.GREATEST}) {
                c.due("part " + part, x.lacks(0, part), Checks.LOST - 2);
                c.due("part " + part + " of the last SIGN", x.lacks(9, part), Checks.LOST - 2);
            }
            // The second time MAY is none, which is looked at last.
            x.answer(0, true);
            x.answer(0, false);
        }
        for (int sign = 0; sign < 10; sign++) {
            c.due("MAY is none, the upper number", x.lacks(sign, 0), Checks.LOST - 5);
            c.due("MAY is none, the lower number", x.lacks(sign, 1), Checks.LOST - 5);
        }
    }

    private static void lacks(Checks c) {
        c.sentence(22, "LACKS of a SIGN: of these sets those that have it.");
        WordsFirst x = Checks.book("abcde=01234 1", "fghij=56789 1", "a=0 1");
        x.answer(0, false);
        c.due("16 by 31, the upper number", x.lacks(4, 0), 16);
        c.due("16 by 31, the lower number", x.lacks(4, 1), 31);
        c.due("of none was asked, the lower number", x.lacks(9, 1), 2);
        x.answer(2, false);
        c.due("surely, the upper number", x.lacks(0, 0), 1);
        c.due("surely, the lower number", x.lacks(0, 1), 1);
        c.due("it tells nothing of the others any more", x.lacks(4, 1), 2);
        x.answer(1, true);
        for (int sign = 5; sign < 10; sign++) {
            c.due("surely not, the upper number", x.lacks(sign, 0), 0);
            c.due("surely not, the lower number", x.lacks(sign, 1), 1);
        }
    }

    private static void tellsNone(Checks c) {
        c.sentence(23, "TELLS; NONE: there are no WORDS.");
        c.due("an empty BOOK", new WordsFirst().tells(), Checks.NONE);
        WordsFirst x = new WordsFirst();
        x.image(0);
        Checks.add(x, "aa=01", 1);
        c.due("one WORD, though it tells nothing", x.tells(), 0);
        x.restore(0);
        c.due("empty again", x.tells(), Checks.NONE);
    }

    private static void tellsOfSeveral(Checks c) {
        c.sentence(23, "TELLS: the WORD by which, right or wrong, the lesser part of MAY is greatest, the least such");
        WordsFirst x = Checks.book("ab=01 1", "c=2 1", "d=3 1");
        c.due("halves by c and d", x.tells(), 1);
        x.answer(1, true);
        c.due("halves by d alone", x.tells(), 2);
        x.answer(2, false);
        c.due("quarters by ab", x.tells(), 0);
        x.answer(0, true);
        c.due("nothing tells any more", x.tells(), 0);
        x.answer(0, false);
        c.due("MAY is none", x.tells(), 0);
        // "abc" is right in a quarter of what is left, "bcdef" in a sixteenth, the others always or never.
        WordsFirst y = Checks.book("abc=012 9", "a=0 9", "bcdef=12345 9", "g=3 9", "d=3 9", "gg=41 1");
        y.answer(3, true);
        y.answer(4, true);
        y.answer(1, true);
        c.due("a quarter is more than a sixteenth", y.tells(), 0);
        y.answer(0, false);
        // b or c is lacking: so "bcdef" can not be read right either.
        c.due("nothing tells any more: the least", y.tells(), 0);
        WordsFirst twelve = Checks.bookOf(12, 1);
        for (int word = 0; word < 11; word++) twelve.answer(word % 10, word % 2 == 0);
        c.due("all told", twelve.tells(), 0);
        twelve.clear();
        for (int word = 0; word < 9; word++) twelve.answer(word, false);
        c.due("the tenth SIGN alone is left", twelve.tells(), 9);
        twelve.clear();
        for (int word = 0; word < 9; word++) twelve.answer(word, true);
        c.due("the tenth SIGN or none", twelve.tells(), 9);
    }

    private static void testNone(Checks c) {
        c.sentence(24, "TEST, as bits.");
        c.due("an empty BOOK", new WordsFirst().test(), 0);
        c.due("no REGULAR WORD", Checks.book("aa=01 1", "bb=10 1").test(), 0);
        c.due("one WORD", Checks.book("a=0 1").test(), 1);
        c.due("one WORD behind one that is not REGULAR", Checks.book("bb=01 1", "a=0 1").test(), 2);
        c.due("ten SIGNS, ten WORDS", Checks.bookOf(10, 1).test(), 1023);
        c.due("two more that tell nothing more", Checks.bookOf(12, 1).test(), 1023);
    }

    private static void testToldApart(Checks c) {
        c.sentence(24, "who lacks one SIGN at most that stands in some REGULAR WORD, it is told which (or none)");
        // By "ab" and "ac": a is wrong twice, b and c once each, none never.
        c.due("three SIGNS by two WORDS", Checks.book("ab=01 1", "ac=02 1", "a=0 1", "b=1 1", "c=2 1").test(), 3);
        // "a" alone would tell a from b, but not b from none.
        c.due("none is told from each", Checks.book("a=0 1", "b=1 1").test(), 3);
        c.due("SIGNS of WORDS that are not REGULAR are not asked for", Checks.book("a=0 9", "ab=31 1").test(), 1);
        c.sentence(24, "those SIGNS that no row of answers tells apart stay so: it is told as well as by all of them");
        c.due("a and b stand together always", Checks.book("ab=01 1", "ba=10 1", "abc=012 1").test(), 5);
        c.due("all five stay so", Checks.book("abcde=01234 1").test(), 1);
        c.due("two fives", Checks.book("abcde=01234 1", "fghij=56789 1").test(), 3);
        WordsFirst x = Checks.book("ab=01 5", "a=7 4", "b=1 1", "c=2 1");
        c.due("ab and b tell a from b", x.test(), 1 + 4 + 8);
        x.often(1, 6);
        c.due("ab is not REGULAR any more", x.test(), 2 + 4 + 8);
        x.often(1, 5);
        c.due("it is again", x.test(), 1 + 4 + 8);
        WordsFirst y = Checks.book("ab=01 5", "a=7 4", "c=2 1", "cc=22 1");
        c.due("ab and c", y.test(), 1 + 4);
        y.often(1, 6);
        c.due("b stands in no REGULAR WORD any more: a and c", y.test(), 2 + 4);
    }

    private static void testOfSeveral(Checks c) {
        c.sentence(24, "of several sets the least as bits.");
        c.due("one of three", Checks.book("ab=01 1", "ba=10 1", "aba=010 1").test(), 1);
        // Any two of "ab", "b", "a" tell a, b and none apart.
        c.due("two of three", Checks.book("ab=01 1", "b=1 1", "a=0 1").test(), 3);
        c.due("behind one that is not REGULAR", Checks.book("cc=01 1", "ab=01 1", "b=1 1", "a=0 1").test(), 6);
        c.sentence(24, "TEST: the fewest REGULAR WORDS by which, who lacks one SIGN at most that stands in some REGULAR WORD, it is told which");
        // The three short ones would be less as bits, 7; but "ab" and "ac" are fewer, and no other two tell all apart.
        c.due("fewest ahead of least", Checks.book("a=0 1", "b=1 1", "c=2 1", "ab=01 1", "ac=02 1").test(), 24);
    }

    private static void respeltPlaces(Checks c) {
        c.sentence(25, "RESPELT: the SIGN at a place; NONE: not so many. UNKNOWN; OUTSIDE: 0 to 4.");
        WordsFirst x = Checks.book("abcde=01234 1", "j=9 1");
        for (int place = 0; place < 5; place++) {
            c.due("of five, " + place, x.respelt(0, place), place);
            c.due("of one, " + place, x.respelt(1, place), place == 0 ? 9 : Checks.NONE);
        }
        for (int place : new int[] {Checks.LEAST, -1, 5, 6, Checks.GREATEST}) {
            c.due("place " + place + " of five", x.respelt(0, place), Checks.OUTSIDE);
            c.due("place " + place + " of one", x.respelt(1, place), Checks.OUTSIDE);
        }
        for (int word : new int[] {Checks.LEAST, -1, 2, 12, Checks.GREATEST}) {
            c.due("WORD " + word, x.respelt(word, 0), Checks.UNKNOWN);
            c.due("WORD " + word + ", no place", x.respelt(word, 5), Checks.UNKNOWN);
            c.due("WORD " + word + ", no place", x.respelt(word, -1), Checks.UNKNOWN);
        }
        c.due("an empty BOOK", new WordsFirst().respelt(0, 0), Checks.UNKNOWN);
    }

    private static void respeltOfSeveral(Checks c) {
        c.sentence(25, "NEW SPELLING: each SOUND is written with the SIGN that has it most (counted in places, as often as WORDS; the least such)");
        WordsFirst x = Checks.book("j=5 4", "b=5 4", "cc=57 2");
        c.due("of b and j with like numbers", x.respelt(0, 0), 1);
        c.due("itself", x.respelt(1, 0), 1);
        c.due("the first place of c", x.respelt(2, 0), 1);
        c.due("the second place of c", x.respelt(2, 1), 2);
        x.often(0, 5);
        c.due("the greatest SIGN, if it has it most", x.respelt(1, 0), 9);
        // Two places of one WORD count twice.
        WordsFirst y = Checks.book("a=5 3", "bb=55 2");
        c.due("four places by three", y.respelt(0, 0), 1);
        y.often(0, 4);
        c.due("four by four: the least", y.respelt(1, 1), 0);
    }

    private static void price(Checks c) {
        c.sentence(26, "PRICE (what = 0), CLASH (1): 100 times the one, and the other; NONE. OUTSIDE.");
        for (WordsFirst x : new WordsFirst[] {new WordsFirst(), Checks.bookOf(12, 1)}) {
            c.due("no price", x.price(0), 0);
            c.due("no CLASH", x.price(1), Checks.NONE);
            for (int what : new int[] {Checks.LEAST, -1, 2, 3, Checks.GREATEST}) c.due("price(" + what + ")", x.price(what), Checks.OUTSIDE);
        }
        c.sentence(26, "PRICE: places at which a WORD changes by it, as often as it stands, together.");
        WordsFirst x = Checks.book("bbbbb=00000 999", "accca=00000 199", "d=0 1");
        c.due("all five places of one, one of another", x.price(0), 199 * 5 + 1);
        c.due("one SIGN for all ten SOUNDS", Checks.book("abcde=00000 1", "aaaaa=12345 1", "aaaa=6789 1").price(0), 4);
    }

    private static void clash(Checks c) {
        c.sentence(26, "CLASH: the first two WORDS (the lesser one, then the other) that are RESPELT alike.");
        c.due("0 and 1", Checks.book("a=0 1", "b=0 1").price(1), 1);
        c.due("three alike: the first two", Checks.book("c=1 9", "a=0 1", "b=0 1", "d=0 1").price(1), 102);
        // 1 and 2 are alike, and so are 0 and 3: the lesser one tells first.
        c.due("the lesser one first", Checks.book("a=0 9", "b=1 9", "c=1 1", "d=0 1").price(1), 3);
        WordsFirst last = Checks.bookOf(11, 9);
        Checks.add(last, "ab=00", 1);
        c.due("the last two of twelve", last.price(1), 1011);
        c.due("of unlike lengths", Checks.book("a=0 1", "aa=00 1", "aaa=000 1").price(1), Checks.NONE);
        c.due("unlike at the last place", Checks.book("abcde=01234 1", "abcdf=01235 1").price(1), Checks.NONE);
        c.due("alike to the last place", Checks.book("abcde=01234 2", "abcdf=01234 1", "j=9 1").price(1), 1);
    }
}
