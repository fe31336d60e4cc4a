/** Boundaries of part 3, orders and tales: promises 16 to 18. */
final class BoundaryOrders {
    private BoundaryOrders() {
    }

    static void run(Checks c) {
        orderPlaces(c);
        orderOfSeveral(c);
        mostNumbers(c);
        mostOfSeveral(c);
        mostWholes(c);
        talePlaces(c);
        taleRows(c);
        taleOfSeveral(c);
    }

    private static void ordered(Checks c, WordsFirst x, int sum, int... row) {
        c.due("the sum", x.order(-1), sum);
        for (int i = 0; i < row.length; i++) c.due("SIGN " + i, x.order(i), row[i]);
    }

    private static void orderPlaces(Checks c) {
        c.sentence(16, "ORDER: the sum (i = -1), the i-th SIGN; NONE.");
        for (WordsFirst x : new WordsFirst[] {new WordsFirst(), Checks.bookOf(12, 999)}) {
            for (int i : new int[] {Checks.LEAST, -3, -2, 10, 11, 1024, Checks.GREATEST}) c.due("order(" + i + ")", x.order(i), Checks.NONE);
            int signs = 0;
            for (int i = 0; i < 10; i++) signs |= 1 << x.order(i);
            c.due("all ten SIGNS", signs, 1023);
        }
        c.sentence(16, "the greatest sum of what the first one, the first two, ... all ten give");
        c.due("an empty BOOK", new WordsFirst().order(-1), 0);
        c.due("one SIGN is there from the first one on", Checks.book("j=9 7").order(-1), 70);
        c.due("ten SIGNS are there with all ten only", Checks.book("abcde=01234 7", "fghij=56789 5").order(-1), 7 * 6 + 5);
        // "aa" is not REGULAR: nothing gives it.
        c.due("no REGULAR WORD", Checks.book("aa=01 9").order(-1), 0);
    }

    private static void orderOfSeveral(Checks c) {
        c.sentence(16, "of several the first by numbers. MOST");
        ordered(c, new WordsFirst(), 0, 0, 1, 2, 3, 4, 5, 6, 7, 8, 9);
        ordered(c, Checks.book("aa=01 9"), 0, 0, 1, 2, 3, 4, 5, 6, 7, 8, 9);
        ordered(c, Checks.book("j=9 7"), 70, 9, 0, 1, 2, 3, 4, 5, 6, 7, 8);
        ordered(c, Checks.book("j=9 5", "b=1 5"), 5 + 10 * 9, 1, 9, 0, 2, 3, 4, 5, 6, 7, 8);
        // The first SIGN comes last, if it alone gives nothing.
        ordered(c, Checks.book("b=1 1", "c=2 1", "d=3 1", "e=4 1", "f=5 1", "g=6 1", "h=7 1", "i=8 1", "j=9 1"), 54, 1, 2, 3, 4, 5, 6, 7, 8, 9, 0);
        // Two WORDS with the same SIGNS.
        ordered(c, Checks.book("ed=43 3", "de=34 4"), 7 * 9, 3, 4, 0, 1, 2, 5, 6, 7, 8, 9);
        // The two SIGNS of one WORD, either first.
        ordered(c, Checks.book("ji=98 5"), 45, 8, 9, 0, 1, 2, 3, 4, 5, 6, 7);
        // b first gives 1 soonest, but c and d together more.
        ordered(c, Checks.book("b=1 1", "dc=32 30"), 30 + 31 * 8, 2, 3, 1, 0, 4, 5, 6, 7, 8, 9);
        // The one SIGN first: 4 + 4 + 12 * 8; the two first: 0 + 8 + 12 * 8: like sums, so the numbers tell.
        ordered(c, Checks.book("cd=23 8", "b=1 4"), 8 + 12 * 8, 1, 2, 3, 0, 4, 5, 6, 7, 8, 9);
        WordsFirst x = Checks.book("bc=12 8", "d=3 4");
        ordered(c, x, 8 + 12 * 8, 1, 2, 3, 0, 4, 5, 6, 7, 8, 9);
        x.often(1, 5);
        ordered(c, x, 5 + 5 + 13 * 8, 3, 1, 2, 0, 4, 5, 6, 7, 8, 9);
        x.often(1, 4);
        ordered(c, x, 8 + 12 * 8, 1, 2, 3, 0, 4, 5, 6, 7, 8, 9);
    }

    private static void mostNumbers(Checks c) {
        c.sentence(17, "OUTSIDE: k 0 to 10, w 0 to how many WORDS there are.");
        for (int words : new int[] {0, 1, 12}) {
            WordsFirst x = Checks.bookOf(words, 3);
            for (int what = 0; what < 3; what++) {
                for (int k : new int[] {Checks.LEAST, -1, 11, 12, Checks.GREATEST}) c.due("k " + k, x.most(k, 0, what), Checks.OUTSIDE);
                for (int w : new int[] {Checks.LEAST, -1, words + 1, 13, Checks.GREATEST}) {
                    c.due("w " + w + " of " + words, x.most(0, w, what), Checks.OUTSIDE);
                    c.due("w " + w + " of " + words + ", no k", x.most(11, w, what), Checks.OUTSIDE);
                }
            }
            for (int what : new int[] {Checks.LEAST, -1, 3, 4, Checks.GREATEST}) c.due("what " + what, x.most(0, 0, what), Checks.OUTSIDE);
            c.due("none at all", x.most(0, 0, 0), 0);
            c.due("no SIGNS", x.most(0, 0, 1), 0);
            c.due("no WHOLES", x.most(0, 0, 2), 0);
            c.due("all WORDS whole", x.most(0, words, 0), words * 3);
            c.due("all WHOLES", x.most(0, words, 2), (1 << words) - 1);
            c.due("all SIGNS", x.most(10, 0, 1), 1023);
            c.due("by all SIGNS", x.most(10, 0, 0), words * 3);
            c.due("no WORD that all SIGNS do not give", x.most(10, words, 2), 0);
        }
    }

    private static void mostOfSeveral(Checks c) {
        c.sentence(17, "the least SIGNS as bits by which");
        WordsFirst empty = new WordsFirst();
        for (int k = 0; k <= 10; k++) c.due("of " + k + " SIGNS that give nothing", empty.most(k, 0, 1), (1 << k) - 1);
        WordsFirst x = Checks.book("j=9 5", "c=2 5", "d=3 5");
        c.due("the least of like ones", x.most(1, 0, 1), 4);
        c.due("of two the least as bits", x.most(2, 0, 1), 12);
        c.due("with one WORD whole: 10 by any of these", x.most(1, 1, 1), 4);
        c.due("all by WHOLES: the least SIGNS", x.most(1, 3, 1), 1);
        c.due("all by one SIGN and two WHOLES: a SIGN that gives one", x.most(1, 2, 1), 4);
        // By b, c: 6 and the 4 of "j" whole; by j, a: 4 and the 6 of "bc" whole: the least as bits are b, c.
        WordsFirst y = Checks.book("j=9 4", "bc=12 6");
        c.due("what WHOLES give counts", y.most(2, 1, 0), 10);
        c.due("the least SIGNS by which with WHOLES", y.most(2, 1, 1), 6);
        c.due("one SIGN and one WHOLE", y.most(1, 1, 1), 512);
    }

    private static void mostWholes(Checks c) {
        c.sentence(17, "then the WHOLES: of WORDS that these SIGNS do not give the most OFTEN ones (the least of like ones)");
        WordsFirst x = Checks.book("ab=01 2", "cd=23 5", "ef=45 5", "gh=67 5", "ij=89 9");
        int[] dues = {0, 16, 18, 22, 30, 31};
        for (int w = 0; w <= 5; w++) c.due("no SIGNS, " + w + " WHOLES", x.most(0, w, 2), dues[w]);
        // c and d with "ij" whole give as much as i and j with "cd" whole, and are less as bits.
        c.due("two SIGNS, one WHOLE: the SIGNS", x.most(2, 1, 1), 12);
        c.due("two SIGNS, one WHOLE", x.most(2, 1, 2), 16);
        c.due("two SIGNS, two WHOLES: the least of those that these SIGNS do not give", x.most(2, 2, 2), 20);
        // With all five whole all SIGNS are as good: a and b, which give "ab"; so "ab" is not among the WHOLES.
        c.due("SIGNS, all whole", x.most(2, 5, 1), 3);
        c.due("fewer than w are left", x.most(2, 5, 2), 30);
        WordsFirst y = Checks.book("aa=01 9", "b=1 3");
        c.due("what is not REGULAR is never given", y.most(10, 2, 2), 1);
        c.due("with it all", y.most(10, 1, 0), 12);
    }

    private static void tale(Checks c, WordsFirst x, int child, int... row) {
        c.due("how many", x.tale(child, -1), row.length);
        for (int i = 0; i < row.length; i++) c.due("WORD " + i, x.tale(child, i), row[i]);
        c.due("behind the last", x.tale(child, row.length), Checks.NONE);
    }

    private static void talePlaces(Checks c) {
        c.sentence(18, "TALE: how many WORDS (i = -1), the i-th; NONE. UNKNOWN.");
        WordsFirst x = Checks.book("ab=01 1", "bc=12 1");
        x.knows(3, 0, 7);
        for (int i : new int[] {Checks.LEAST, -3, -2, 2, 3, 12, 13, Checks.GREATEST}) {
            c.due("tale(3, " + i + ")", x.tale(3, i), Checks.NONE);
            c.due("tale(0, " + i + ")", x.tale(0, i), Checks.NONE);
        }
        c.due("the first place", x.tale(3, 0), 0);
        c.due("the last place", x.tale(3, 1), 1);
        c.due("none that it CAN READ", x.tale(0, -1), 0);
        c.due("and no first one", x.tale(0, 0), Checks.NONE);
        for (int child : BoundaryChildren.NO_CHILDREN) {
            c.due("tale(" + child + ", -1)", x.tale(child, -1), Checks.UNKNOWN);
            c.due("tale(" + child + ", 0)", x.tale(child, 0), Checks.UNKNOWN);
            c.due("tale(" + child + ", 99)", x.tale(child, 99), Checks.UNKNOWN);
        }
        c.due("an empty BOOK", new WordsFirst().tale(0, -1), 0);
    }

    private static void taleRows(Checks c) {
        c.sentence(18, "TALE of a CHILD: a row of unlike WORDS that it CAN READ, each beginning with the SIGN with which the one ahead ends: the longest");
        WordsFirst x = Checks.book("aa=00 1");
        x.knows(0, 1, 1);
        tale(c, x, 0, 0);
        WordsFirst ring = Checks.book("ab=01 1", "ba=10 1");
        ring.knows(0, 1, 3);
        tale(c, ring, 0, 0, 1);
        ring.knows(1, 1, 2);
        tale(c, ring, 1, 1);
        WordsFirst all = Checks.book("a=0 1", "aa=00 1", "aaa=000 1", "aaaa=0000 1", "aaaaa=00000 1", "aba=010 1",
            "aca=020 1", "ada=030 1", "aea=040 1", "afa=050 1", "aga=060 1", "aha=070 1");
        all.knows(2, 1, 4095);
        tale(c, all, 2, 0, 1, 2, 3, 4, 5, 6, 7, 8, 9, 10, 11);
        all.knows(2, 1, 2048);
        tale(c, all, 2, 11);
        all.knows(2, 1, 0b101010101010);
        tale(c, all, 2, 1, 3, 5, 7, 9, 11);
        WordsFirst behind = Checks.book("bc=12 1", "ab=01 1");
        behind.knows(0, 1, 3);
        tale(c, behind, 0, 1, 0);
        WordsFirst last = Checks.book("bc=12 1", "cd=23 1", "de=34 1", "ef=45 1", "fg=56 1", "gh=67 1", "hi=78 1", "ij=89 1", "j=9 1",
            "jj=99 1", "jjj=999 1", "ab=01 1");
        last.knows(0, 1, 4095);
        tale(c, last, 0, 11, 0, 1, 2, 3, 4, 5, 6, 7, 8, 9, 10);
        // Not by SOUNDS: "ab" ends with b, "cb" begins with c, though both SOUND 1 there.
        WordsFirst sounds = Checks.book("ab=01 1", "cb=11 1");
        sounds.knows(0, 1, 3);
        tale(c, sounds, 0, 0);
    }

    private static void taleOfSeveral(Checks c) {
        c.sentence(18, "the longest; of several the first by numbers.");
        WordsFirst single = Checks.book("ab=01 1", "cd=23 1", "ef=45 1");
        single.knows(0, 1, 7);
        tale(c, single, 0, 0);
        single.knows(0, 1, 6);
        tale(c, single, 0, 1);
        // WORD 0 begins no row of two.
        WordsFirst x = Checks.book("ij=89 1", "bc=12 1", "ab=01 1", "ca=20 1", "bd=13 1");
        x.knows(0, 1, 31);
        // Of four: bc ca ab bd; none begins lesser.
        tale(c, x, 0, 1, 3, 2, 4);
        // 0, 1, 2 would be the first by numbers, but there is a longer one.
        WordsFirst y = Checks.book("ba=10 1", "ab=01 1", "bab=101 1", "aba=010 1");
        y.knows(0, 1, 15);
        tale(c, y, 0, 0, 3, 1, 2);
        WordsFirst ring = Checks.book("ca=20 1", "ab=01 1", "bc=12 1");
        ring.knows(0, 1, 7);
        tale(c, ring, 0, 0, 1, 2);
    }
}
