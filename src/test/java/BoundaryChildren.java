/** Boundaries of part 2, children: promises 11 to 15. */
final class BoundaryChildren {
    static final int[] NO_CHILDREN = {Checks.LEAST, -2, -1, 4, 5, 10, Checks.GREATEST};

    private BoundaryChildren() {
    }

    static void run(Checks c) {
        knowsSigns(c);
        knowsWholes(c);
        knowsRefused(c);
        mixTold(c);
        mixRefused(c);
        readWhole(c);
        readSounded(c);
        readSoundedAs(c);
        readGuessed(c);
        readFirstWay(c);
        readRefused(c);
        share(c);
        givesRefused(c);
        gives(c);
    }

    private static void knowsSigns(Checks c) {
        c.sentence(11, "CHILDREN 0 to 3: which SIGNS each knows (bits 0 to 1023; none at first)");
        for (int child = 0; child < 4; child++) {
            WordsFirst x = new WordsFirst();
            c.due("all, none at first", x.knows(child, 0, 1023), 0);
            c.due("none", x.knows(child, 0, 0), 1023);
            c.due("one", x.knows(child, 0, 512), 0);
            for (int v : new int[] {Checks.LEAST, -1, 1024, 1025, 65536, Checks.GREATEST}) {
                c.due("SIGNS " + v, x.knows(child, 0, v), Checks.OUTSIDE);
            }
            for (int other = 0; other < 4; other++) c.due("SIGNS of " + other, x.told(10 + other), other == child ? 512 : 0);
            c.due("WHOLES are others", x.told(20 + child), 0);
        }
    }

    private static void knowsWholes(Checks c) {
        c.sentence(11, "OUTSIDE: bits of WORDS that there are not, too.");
        for (int words = 0; words <= 12; words++) {
            WordsFirst x = Checks.bookOf(words, 1);
            int all = (1 << words) - 1;
            c.due("all of " + words, x.knows(3, 1, all), 0);
            c.due("one more than " + words, x.knows(3, 1, all + 1), Checks.OUTSIDE);
            c.due("all and one more than " + words, x.knows(3, 1, 2 * all + 1 + (words == 0 ? 1 : 0)), Checks.OUTSIDE);
            for (int v : new int[] {Checks.LEAST, -1, 4096, Checks.GREATEST}) c.due("WHOLES " + v, x.knows(3, 1, v), Checks.OUTSIDE);
            c.due("all of " + words + " still", x.told(23), all);
            c.due("none", x.knows(3, 1, 0), all);
        }
        WordsFirst x = new WordsFirst();
        c.due("no WORD yet", x.knows(0, 1, 1), Checks.OUTSIDE);
        Checks.add(x, "a=0", 1);
        c.due("one WORD now", x.knows(0, 1, 1), 0);
    }

    private static void knowsRefused(Checks c) {
        c.sentence(11, "SIGNS (what = 0), WHOLES (1) of a CHILD, as bits: which they were. UNKNOWN; OUTSIDE");
        WordsFirst x = Checks.book("a=0 1");
        for (int what : new int[] {Checks.LEAST, -1, 2, 3, Checks.GREATEST}) c.due("what " + what, x.knows(0, what, 0), Checks.OUTSIDE);
        for (int child : NO_CHILDREN) {
            c.due("CHILD " + child, x.knows(child, 0, 0), Checks.UNKNOWN);
            c.due("CHILD " + child + ", WHOLES", x.knows(child, 1, 1), Checks.UNKNOWN);
            c.due("CHILD " + child + ", no what", x.knows(child, 2, 0), Checks.UNKNOWN);
            c.due("CHILD " + child + ", no SIGNS", x.knows(child, 0, 1024), Checks.UNKNOWN);
            c.due("CHILD " + child + ", no WHOLES", x.knows(child, 1, 2), Checks.UNKNOWN);
        }
        c.due("SIGNS of none changed", x.told(10) + x.told(11) + x.told(12) + x.told(13), 0);
        c.due("WHOLES of none changed", x.told(20) + x.told(21) + x.told(22) + x.told(23), 0);
    }

    private static void mixTold(Checks c) {
        c.sentence(12, "Two unlike SIGNS are MIXED UP (both -1: none): 10 times the lesser one and the other, as it was (NONE).");
        for (int child = 0; child < 4; child++) {
            WordsFirst x = new WordsFirst();
            c.due("none to none", x.mix(child, -1, -1), Checks.NONE);
            c.due("none at first", x.mix(child, 0, 1), Checks.NONE);
            c.due("the least two", x.mix(child, 9, 8), 1);
            c.due("the greatest two, the greater one told first", x.mix(child, 9, 0), 89);
            c.due("the least and the greatest", x.mix(child, -1, -1), 9);
            c.due("none again", x.told(30 + child), Checks.NONE);
            c.due("none was", x.mix(child, 1, 0), Checks.NONE);
            for (int other = 0; other < 4; other++) c.due("MIXED UP of " + other, x.told(30 + other), other == child ? 1 : Checks.NONE);
        }
        WordsFirst x = new WordsFirst();
        x.mix(0, 2, 3);
        c.due("the same two, the other way round", x.mix(0, 3, 2), 23);
        c.due("they are the same", x.told(30), 23);
    }

    private static void mixRefused(Checks c) {
        c.sentence(12, "UNKNOWN: the CHILD, a SIGN, both are one.");
        WordsFirst x = new WordsFirst();
        x.mix(1, 4, 5);
        for (int child : NO_CHILDREN) {
            c.due("CHILD " + child, x.mix(child, 0, 1), Checks.UNKNOWN);
            c.due("CHILD " + child + ", none", x.mix(child, -1, -1), Checks.UNKNOWN);
        }
        for (int sign : new int[] {Checks.LEAST, -2, -1, 10, 11, Checks.GREATEST}) {
            c.due("a first SIGN " + sign, x.mix(1, sign, 0), Checks.UNKNOWN);
            c.due("a second SIGN " + sign, x.mix(1, 9, sign), Checks.UNKNOWN);
            if (sign != -1) c.due("both " + sign, x.mix(1, sign, sign), Checks.UNKNOWN);
        }
        c.due("one none, the other no SIGN", x.mix(1, -1, 10), Checks.UNKNOWN);
        c.due("one no SIGN, the other none", x.mix(1, -2, -1), Checks.UNKNOWN);
        for (int sign = 0; sign < 10; sign++) c.due("both are " + sign, x.mix(1, sign, sign), Checks.UNKNOWN);
        c.due("as it was", x.told(31), 45);
    }

    private static void reads(Checks c, WordsFirst x, int word, int how, int as) {
        c.due("how WORD " + word + " is read", x.read(0, word, 0), how);
        c.due("as which WORD " + word + " is read", x.read(0, word, 1), as);
    }

    private static void readWhole(Checks c) {
        c.sentence(13, "READING a WORD: 0 WHOLE, if it is known so: right.");
        WordsFirst x = Checks.book("a=0 9", "ab=31 1", "c=0 1");
        x.knows(0, 1, 7);
        reads(c, x, 1, 0, 1);
        x.knows(0, 0, 1023);
        x.mix(0, 0, 1);
        reads(c, x, 0, 0, 0);
        reads(c, x, 1, 0, 1);
        x.knows(0, 1, 5);
        reads(c, x, 1, 1, Checks.NONE);
        c.sentence(13, "3 not at all.");
        x.knows(0, 0, 2);
        reads(c, x, 1, 3, Checks.NONE);
        x.knows(0, 0, 0);
        reads(c, x, 1, 3, Checks.NONE);
        c.due("a CHILD of whom nothing was told", x.read(3, 0, 0), 3);
        c.due("as none", x.read(3, 0, 1), Checks.NONE);
    }

    private static void readSounded(Checks c) {
        c.sentence(13, "1 SOUNDED, if all its SIGNS are known");
        WordsFirst x = Checks.book("abcde=01234 1", "j=9 1");
        x.knows(0, 0, 31);
        reads(c, x, 0, 1, 0);
        for (int sign = 1; sign < 5; sign++) {
            x.knows(0, 0, 1023 ^ 1 << sign);
            reads(c, x, 0, 2, 0);
        }
        x.knows(0, 0, 1022);
        reads(c, x, 0, 3, Checks.NONE);
        c.sentence(13, "the row of COMMON SOUNDS of its SIGNS (of what each is taken for; if one of these has none, it is read as none)");
        WordsFirst y = Checks.book("ab=01 1", "ba=10 1", "c=1 1", "ac=02 1");
        y.knows(0, 0, 3);
        y.mix(0, 1, 0);
        reads(c, y, 0, 1, 1);
        reads(c, y, 1, 1, 0);
        // b is taken for c, which is not known, but stands in THE BOOK: it is the WORD's own SIGNS that must be known.
        y.mix(0, 1, 2);
        reads(c, y, 0, 1, 0);
        y.mix(0, 1, 9);
        reads(c, y, 0, 1, Checks.NONE);
        reads(c, y, 1, 1, Checks.NONE);
        y.mix(0, 0, 9);
        reads(c, y, 0, 1, Checks.NONE);
    }

    private static void readSoundedAs(Checks c) {
        c.sentence(13, "it is read as the WORD of THE BOOK with just these SOUNDS (of several itself, if it is among them, else the least), or as none");
        WordsFirst x = Checks.book("a=3 1", "b=3 1", "c=3 1");
        x.knows(0, 0, 7);
        for (int word = 0; word < 3; word++) reads(c, x, word, 1, word);
        WordsFirst y = Checks.book("a=0 9", "ab=05 1", "b=1 9", "cd=01 1", "ef=01 1");
        y.knows(0, 0, 3);
        reads(c, y, 1, 1, 3);
        WordsFirst z = Checks.book("cd=01 1", "ef=01 1", "a=0 9", "b=1 9", "ab=05 1");
        z.knows(0, 0, 3);
        reads(c, z, 4, 1, 0);
        c.sentence(13, "with just these SOUNDS");
        WordsFirst longer = Checks.book("abc=015 1", "a=0 9", "b=1 9", "ab=05 1", "d=0 1");
        longer.knows(0, 0, 3);
        reads(c, longer, 3, 1, Checks.NONE);
        Checks.add(longer, "ee=01", 1);
        reads(c, longer, 3, 1, 5);
        WordsFirst almost = Checks.book("a=0 9", "b=1 9", "ab=05 1", "cd=91 1", "ef=09 1");
        almost.knows(0, 0, 3);
        reads(c, almost, 2, 1, Checks.NONE);
        WordsFirst full = Checks.bookOf(11, 9);
        Checks.add(full, "ab=77", 1);
        full.knows(0, 0, 3);
        reads(c, full, 11, 1, Checks.NONE);
        full.mix(0, 1, 0);
        reads(c, full, 1, 1, 0);
    }

    private static void readGuessed(Checks c) {
        c.sentence(13, "2 GUESSED, if its first SIGN is known: as the most OFTEN WORD with that first SIGN, as it stands there (the least such)");
        WordsFirst x = Checks.book("ba=10 999", "ab=01 5", "ac=02 5", "ad=03 5", "b=1 1");
        x.knows(0, 0, 1);
        for (int word = 1; word < 4; word++) reads(c, x, word, 2, 1);
        x.often(3, 6);
        for (int word = 1; word < 4; word++) reads(c, x, word, 2, 3);
        x.often(2, 6);
        for (int word = 1; word < 4; word++) reads(c, x, word, 2, 2);
        // A guess looks at the SIGN as it stands there, not at what it is taken for.
        x.mix(0, 0, 1);
        reads(c, x, 1, 2, 2);
        reads(c, x, 0, 3, Checks.NONE);
        x.mix(0, 0, 9);
        reads(c, x, 1, 2, 2);
        x.knows(0, 0, 2);
        reads(c, x, 0, 2, 0);
        reads(c, x, 1, 3, Checks.NONE);
    }

    private static void readFirstWay(Checks c) {
        c.sentence(13, "The first of these that can be.");
        WordsFirst x = Checks.book("ab=05 9", "b=1 99");
        x.knows(0, 0, 1);
        reads(c, x, 0, 2, 0);
        // Sounded it is none, guessed it would be itself: it is sounded.
        x.knows(0, 0, 3);
        reads(c, x, 0, 1, Checks.NONE);
        x.knows(0, 1, 1);
        reads(c, x, 0, 0, 0);
    }

    private static void readRefused(Checks c) {
        c.sentence(13, "READING: how (what = 0), as which WORD (1; NONE). UNKNOWN; OUTSIDE.");
        WordsFirst x = Checks.book("a=0 1", "b=1 1");
        for (int child : NO_CHILDREN) {
            c.due("CHILD " + child, x.read(child, 0, 0), Checks.UNKNOWN);
            c.due("CHILD " + child + ", no what", x.read(child, 0, 2), Checks.UNKNOWN);
        }
        for (int word : new int[] {Checks.LEAST, -1, 2, 3, 12, Checks.GREATEST}) {
            c.due("WORD " + word, x.read(0, word, 0), Checks.UNKNOWN);
            c.due("WORD " + word + ", as which", x.read(3, word, 1), Checks.UNKNOWN);
            c.due("WORD " + word + ", no what", x.read(0, word, -1), Checks.UNKNOWN);
        }
        for (int what : new int[] {Checks.LEAST, -1, 2, 3, Checks.GREATEST}) c.due("what " + what, x.read(0, 0, what), Checks.OUTSIDE);
        c.due("the last CHILD and the last WORD", x.read(3, 1, 0), 3);
        c.due("an empty BOOK", new WordsFirst().read(0, 0, 0), Checks.UNKNOWN);
    }

    private static void share(Checks c) {
        c.sentence(14, "CAN READ: what is read as itself. SHARE of a CHILD: OFTEN of WORDS that it CAN READ, together.");
        WordsFirst x = Checks.bookOf(12, 999);
        c.due("none", x.share(0), 0);
        x.knows(0, 0, 1023);
        c.due("all that a BOOK can hold", x.share(0), 12 * 999);
        x.knows(3, 1, 4095);
        c.due("the last CHILD, all whole", x.share(3), 12 * 999);
        x.knows(3, 0, 1023);
        c.due("what is known twice counts once", x.share(3), 12 * 999);
        WordsFirst y = Checks.book("a=0 100", "ab=05 10", "b=1 99", "ac=07 9");
        y.knows(0, 0, 1);
        c.due("guessed as another it can not be read", y.share(0), 100);
        c.sentence(14, "SHARE. UNKNOWN.");
        for (int child : NO_CHILDREN) c.due("share(" + child + ")", x.share(child), Checks.UNKNOWN);
        c.due("an empty BOOK", new WordsFirst().share(3), 0);
    }

    private static void givesRefused(Checks c) {
        c.sentence(15, "What SIGNS and WHOLES give. OUTSIDE.");
        for (int words : new int[] {0, 1, 11, 12}) {
            WordsFirst x = Checks.bookOf(words, 999);
            int all = (1 << words) - 1;
            c.due("none of " + words, x.gives(0, 0), 0);
            c.due("all SIGNS of " + words, x.gives(1023, 0), words * 999);
            c.due("all WHOLES of " + words, x.gives(0, all), words * 999);
            c.due("all, and all whole: counted once", x.gives(1023, all), words * 999);
            for (int wholes : new int[] {Checks.LEAST, -1, all + 1, Checks.GREATEST}) {
                c.due("WHOLES " + wholes + " of " + words, x.gives(0, wholes), Checks.OUTSIDE);
            }
            for (int signs : new int[] {Checks.LEAST, -1, 1024, Checks.GREATEST}) {
                c.due("SIGNS " + signs, x.gives(signs, 0), Checks.OUTSIDE);
                c.due("SIGNS " + signs + " and no WHOLES", x.gives(signs, all + 1), Checks.OUTSIDE);
            }
        }
    }

    private static void gives(Checks c) {
        c.sentence(15, "What SIGNS (bits) and WHOLES give: OFTEN of REGULAR WORDS all of whose SIGNS are among them, "
            + "and of those that are WHOLE, together.");
        WordsFirst x = Checks.book("abcde=01234 7", "a=9 5", "j=9 3");
        c.due("all its SIGNS", x.gives(31, 0), 7);
        for (int sign = 0; sign < 5; sign++) c.due("all but " + sign, x.gives(1023 ^ 1 << sign, 0), 3);
        c.due("not what is not REGULAR", x.gives(1, 0), 0);
        c.due("but if it is WHOLE", x.gives(1, 2), 5);
        c.due("the last WORD whole", x.gives(31, 4), 10);
    }
}
