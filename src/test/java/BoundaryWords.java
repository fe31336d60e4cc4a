/** Boundaries of part 1, words: promises 1 to 10. */
final class BoundaryWords {
    private static final int[] NO_SIGNS = {Checks.LEAST, -6, -1, 10, 11, 1024, Checks.GREATEST};
    private static final int[] NO_PARTS = {Checks.LEAST, -1, 2, 10, Checks.GREATEST};

    private BoundaryWords() {
    }

    static void run(Checks c) {
        newObject(c);
        sayCodes(c);
        sayFull(c);
        wipe(c);
        faultWhereMoreMustCome(c);
        faultOfWrongSigns(c);
        faultFirst(c);
        wordOften(c);
        wordRefused(c);
        wordLetters(c);
        wordFull(c);
        aboutNumbers(c);
        aboutLengths(c);
        aboutRegular(c);
        often(c);
        has(c);
        common(c);
        ruled(c);
    }

    private static void newObject(Checks c) {
        c.sentence(1, "THE BOOK is empty; no ANSWERS; the PAD is empty.");
        WordsFirst x = new WordsFirst();
        c.due("signs", x.told(0), 0);
        c.due("WORDS", x.told(1), 0);
        c.due("ANSWERS", x.told(2), 0);
        c.due("OFTEN of all", x.told(3), 0);
        c.due("word 0", x.about(0, 0), Checks.UNKNOWN);
        c.due("FAULT", x.fault(), 0);
        c.due("wipe", x.wipe(), 0);
        c.due("clear", x.clear(), 0);
        c.sentence(1, "(bits 0 to 1023; none at first), which WORDS whole (bits; none at first), and two SIGNS that are MIXED UP "
            + "(each is taken for the other one; none at first)");
        for (int child = 0; child < 4; child++) {
            c.due("SIGNS of " + child, x.told(10 + child), 0);
            c.due("WHOLES of " + child, x.told(20 + child), 0);
            c.due("MIXED UP of " + child, x.told(30 + child), Checks.NONE);
        }
        WordsFirst y = new WordsFirst();
        x.say('a');
        x.knows(0, 0, 1);
        c.due("another object's PAD", y.told(0), 0);
        c.due("another object's CHILD", y.told(10), 0);
    }

    private static void sayCodes(Checks c) {
        c.sentence(2, "(codes 33 to 126)");
        for (int code = 33; code <= 126; code++) c.due("say(" + code + ")", new WordsFirst().say(code), 1);
        int[] none = {Checks.LEAST, -97, -1, 0, 10, 32, 127, 128, 256 + 97, 65536 + 97, Checks.GREATEST};
        for (int code : none) {
            WordsFirst x = new WordsFirst();
            c.due("say(" + code + ")", x.say(code), Checks.OUTSIDE);
            c.due("signs behind it", x.told(0), 0);
        }
    }

    private static void sayFull(Checks c) {
        c.sentence(2, "On a PAD of up to 14 signs");
        WordsFirst x = new WordsFirst();
        for (int i = 1; i <= 14; i++) c.due("sign " + i, x.say('a'), i);
        c.due("a fifteenth", x.say('a'), Checks.FULL);
        c.due("a fifteenth again", x.say(126), Checks.FULL);
        c.due("signs", x.told(0), 14);
        c.sentence(2, "A sign more: how many. OUTSIDE; FULL.");
        for (int code : new int[] {Checks.LEAST, 32, 127, Checks.GREATEST}) c.due("say(" + code + ")", x.say(code), Checks.OUTSIDE);
        c.due("the FAULT is still the sixth letter", x.fault(), 5);
    }

    private static void wipe(Checks c) {
        c.sentence(3, "Signs go: how many there were.");
        WordsFirst x = new WordsFirst();
        c.due("of none", x.wipe(), 0);
        x.say('=');
        c.due("of one", x.wipe(), 1);
        for (int i = 0; i < 14; i++) x.say('a');
        c.due("of a full PAD", x.wipe(), 14);
        c.due("they are gone", x.told(0), 0);
        c.due("twice", x.wipe(), 0);
        c.due("what was said ahead is no FAULT any more", Checks.add(x, "a=0", 1), 0);
        for (int i = 1; i <= 14; i++) c.due("again sign " + i, x.say('a'), i);
    }

    private static int faultOf(String text) {
        WordsFirst x = new WordsFirst();
        Checks.spell(x, text);
        return x.fault();
    }

    private static String letters(int n) {
        return "jabcde".substring(0, n);
    }

    private static String digits(int n) {
        return "901234".substring(0, n);
    }

    private static void faultWhereMoreMustCome(Checks c) {
        c.sentence(4, "or the number of signs, if more must come.");
        c.due("an empty PAD", faultOf(""), 0);
        for (int n = 1; n <= 5; n++) {
            c.due(letters(n), faultOf(letters(n)), n);
            for (int d = 0; d < n; d++) {
                String text = letters(n) + "=" + digits(d);
                c.due(text, faultOf(text), n + 1 + d);
            }
        }
        c.sentence(4, "A WORD is a text: 1 to 5 SIGNS' letters, =, as many digits");
        for (int n = 1; n <= 5; n++) c.due("so many letters: " + n, faultOf(letters(n) + "=" + digits(n)), Checks.NONE);
    }

    /** Each of the 94 codes behind each beginning of a WORD. */
    private static void faultOfWrongSigns(Checks c) {
        c.sentence(4, "SIGNS 0 to 9 (a to j), SOUNDS 0 to 9.");
        for (char code = 33; code <= 126; code++) {
            boolean letter = code >= 'a' && code <= 'j';
            boolean digit = code >= '0' && code <= '9';
            for (int n = 0; n <= 5; n++) {
                boolean stands = letter && n < 5 || code == '=' && n > 0;
                c.due(letters(n) + code, faultOf(letters(n) + code), stands ? n + 1 : n);
            }
            for (int n = 1; n <= 5; n++) {
                for (int d = 0; d <= n; d++) {
                    int due = !digit || d == n ? n + 1 + d : d + 1 == n ? Checks.NONE : n + 2 + d;
                    String text = letters(n) + "=" + digits(d) + code;
                    c.due(text, faultOf(text), due);
                }
            }
        }
    }

    private static void faultFirst(Checks c) {
        c.sentence(4, "(a sixth letter; a = ahead of the first one; a digit more than letters)");
        c.due("a sixth letter", faultOf("abcdef"), 5);
        c.due("a sixth letter, all else right", faultOf("abcdef=01234"), 5);
        c.due("a = ahead of the first one", faultOf("="), 0);
        c.due("a = ahead of the first one, all else right", faultOf("=a=0"), 0);
        c.due("a digit more", faultOf("a=00"), 3);
        c.due("a sixth digit", faultOf("abcde=012345"), 11);
        c.sentence(4, "THE FAULT is the place (from 0 on) of the first sign that can not stand there");
        c.due("two", faultOf("a!b?=01"), 1);
        c.due("a later = does not mend it", faultOf("=a=0"), 0);
        c.due("at the last place of a full PAD", faultOf("abcdeabcdeabcd"), 5);
        c.due("behind a WORD", faultOf("a=0a=0"), 3);
        c.due("behind the longest WORD", faultOf("abcde=01234a=0"), 11);
        c.due("a second =", faultOf("a=="), 2);
        WordsFirst x = new WordsFirst();
        Checks.spell(x, "a=0");
        c.due("asked once", x.fault(), Checks.NONE);
        c.due("asked twice", x.fault(), Checks.NONE);
    }

    private static void wordOften(Checks c) {
        c.sentence(5, "each with OFTEN (1 to 999)");
        for (int often : new int[] {1, 2, 998, 999}) {
            WordsFirst x = new WordsFirst();
            c.due("word(" + often + ")", Checks.add(x, "a=0", often), 0);
            c.due("OFTEN", x.about(0, 1), often);
        }
        for (int often : new int[] {Checks.LEAST, -1, 0, 1000, 65537, Checks.GREATEST}) {
            WordsFirst x = new WordsFirst();
            c.due("word(" + often + ")", Checks.add(x, "a=0", often), Checks.OUTSIDE);
            c.due("no WORD", x.told(1), 0);
            c.due("the PAD stays", x.told(0), 3);
            c.due("and becomes a WORD still", x.word(1), 0);
        }
        c.sentence(5, "The PAD becomes a WORD (it is empty then): its number.");
        WordsFirst x = Checks.book("ab=01 1");
        c.due("signs", x.told(0), 0);
        c.due("FAULT", x.fault(), 0);
        c.due("wipe", x.wipe(), 0);
        c.due("the next", Checks.add(x, "abcde=01234", 1), 1);
        c.due("of fewer signs", Checks.add(x, "a=0", 1), 2);
    }

    private static void wordRefused(Checks c) {
        c.sentence(5, "OUTSIDE; NO: there is a FAULT");
        for (String text : new String[] {"", "a", "abcde", "a=", "ab=0", "=", "a=01", "abcdef=012345", "k=0", "a=0a"}) {
            WordsFirst x = new WordsFirst();
            Checks.spell(x, text);
            c.due("'" + text + "'", x.word(1), Checks.NO);
            c.due("'" + text + "' stays", x.told(0), Math.min(14, text.length()));
            c.due("'" + text + "', OFTEN 0", x.word(0), Checks.OUTSIDE);
            c.due("'" + text + "', OFTEN 1000", x.word(1000), Checks.OUTSIDE);
            c.due("no WORD", x.told(1), 0);
        }
    }

    private static void wordLetters(Checks c) {
        c.sentence(5, "No two WORDS have the same letters.");
        WordsFirst x = Checks.book("ab=01 1", "j=9 1", "abcde=01234 1");
        for (String text : new String[] {"ab=01", "ab=10", "j=0", "abcde=99999"}) {
            c.due(text, Checks.add(x, text, 1), Checks.NO);
            c.due("the PAD stays", x.wipe(), text.length());
        }
        String[] others = {"ba=01", "a=0", "b=1", "abc=012", "abcd=0123", "abced=01234", "jj=99", "aab=001"};
        for (int i = 0; i < others.length; i++) c.due(others[i], Checks.add(x, others[i], 1), 3 + i);
        c.due("a first one may have any", Checks.add(new WordsFirst(), "ab=01", 1), 0);
    }

    private static void wordFull(Checks c) {
        c.sentence(5, "THE BOOK: WORDS, 12 at most, numbered from 0 on");
        WordsFirst x = new WordsFirst();
        for (int w = 0; w < 12; w++) {
            c.due("WORD " + w, Checks.add(x, (char) ('a' + w / 4) + "" + (char) ('a' + w % 4) + "=01", 1), w);
        }
        c.due("a thirteenth", Checks.add(x, "da=30", 1), Checks.FULL);
        c.due("WORDS", x.told(1), 12);
        c.due("the PAD stays", x.told(0), 5);
        c.sentence(5, "OUTSIDE; NO: there is a FAULT, or a WORD with these letters; FULL.");
        c.due("OUTSIDE ahead of FULL", x.word(1000), Checks.OUTSIDE);
        x.say('0');
        c.due("a FAULT ahead of FULL", x.word(1), Checks.NO);
        x.wipe();
        c.due("an empty PAD ahead of FULL", x.word(1), Checks.NO);
        c.due("letters that there are ahead of FULL", Checks.add(x, "ab=99", 1), Checks.NO);
        c.due("OUTSIDE ahead of letters that there are", x.word(0), Checks.OUTSIDE);
        x.image(0);
        c.due("a full BOOK comes back full", x.restore(0), 1);
        x.wipe();
        c.due("a thirteenth still", Checks.add(x, "da=30", 1), Checks.FULL);
    }

    private static void aboutNumbers(Checks c) {
        c.sentence(6, "Of a WORD: 0 how many letters, 1 OFTEN, 2 SIGNS as bits, 3 whether it is REGULAR (1, 0), 10 to 14 its SIGNS, 20 to 24 its SOUNDS");
        WordsFirst x = Checks.book("ajbic=09183 999", "j=9 1");
        int[] whats = {0, 1, 2, 3, 10, 11, 12, 13, 14, 20, 21, 22, 23, 24};
        int[] dues = {5, 999, 1 | 512 | 2 | 256 | 4, 1, 0, 9, 1, 8, 2, 0, 9, 1, 8, 3};
        for (int i = 0; i < whats.length; i++) c.due("about(0, " + whats[i] + ")", x.about(0, whats[i]), dues[i]);
        for (int what : new int[] {Checks.LEAST, -1, 4, 5, 9, 15, 16, 19, 25, 26, 30, Checks.GREATEST}) {
            c.due("about(0, " + what + ")", x.about(0, what), Checks.OUTSIDE);
        }
        c.sentence(6, "(NONE: not so many). UNKNOWN; OUTSIDE.");
        for (int word : new int[] {Checks.LEAST, -1, 2, 3, 11, 12, Checks.GREATEST}) {
            c.due("about(" + word + ", 0)", x.about(word, 0), Checks.UNKNOWN);
            c.due("about(" + word + ", 14)", x.about(word, 14), Checks.UNKNOWN);
            c.due("about(" + word + ", 4)", x.about(word, 4), Checks.UNKNOWN);
        }
        WordsFirst full = Checks.bookOf(12, 7);
        c.due("the last of twelve", full.about(11, 1), 7);
        c.due("none behind it", full.about(12, 1), Checks.UNKNOWN);
        c.due("none of none", new WordsFirst().about(0, 0), Checks.UNKNOWN);
    }

    private static void aboutLengths(Checks c) {
        c.sentence(6, "(NONE: not so many)");
        WordsFirst x = Checks.book("j=9 1", "jj=99 1", "jjj=999 1", "jjjj=9999 1", "jjjjj=99999 1");
        for (int word = 0; word < 5; word++) {
            c.due("letters", x.about(word, 0), word + 1);
            c.due("one SIGN is one bit, however often it stands", x.about(word, 2), 512);
            for (int place = 0; place < 5; place++) {
                c.due("SIGN " + place + " of " + (word + 1), x.about(word, 10 + place), place <= word ? 9 : Checks.NONE);
                c.due("SOUND " + place + " of " + (word + 1), x.about(word, 20 + place), place <= word ? 9 : Checks.NONE);
            }
        }
    }

    private static void aboutRegular(Checks c) {
        c.sentence(6, "A WORD is REGULAR, if each of its SIGNS has its COMMON SOUND there.");
        c.due("each SIGN alone in THE BOOK", Checks.book("abcde=00000 1").about(0, 3), 1);
        c.due("one SIGN, two SOUNDS in one WORD", Checks.book("aa=01 9").about(0, 3), 0);
        WordsFirst x = Checks.book("a=1 5", "abcde=01234 4");
        c.due("by the most", x.about(0, 3), 1);
        c.due("the first place is not by it", x.about(1, 3), 0);
        x.often(1, 5);
        c.due("of like ones the lesser SOUND", x.about(1, 3), 1);
        c.due("the other is not by it", x.about(0, 3), 0);
        WordsFirst y = Checks.book("e=9 5", "abcde=01234 4");
        c.due("the last place is not by it", y.about(1, 3), 0);
    }

    private static void often(Checks c) {
        c.sentence(7, "OFTEN of a WORD: which it was. UNKNOWN; OUTSIDE.");
        WordsFirst x = Checks.book("a=0 5", "b=1 6");
        c.due("the least", x.often(0, 1), 5);
        c.due("the greatest", x.often(0, 999), 1);
        c.due("as it is", x.often(0, 999), 999);
        c.due("the last WORD", x.often(1, 2), 6);
        for (int v : new int[] {Checks.LEAST, -1, 0, 1000, 65537, Checks.GREATEST}) {
            c.due("often(0, " + v + ")", x.often(0, v), Checks.OUTSIDE);
            c.due("it stays", x.about(0, 1), 999);
        }
        for (int word : new int[] {Checks.LEAST, -1, 2, 11, 12, Checks.GREATEST}) {
            c.due("often(" + word + ", 1)", x.often(word, 1), Checks.UNKNOWN);
            c.due("often(" + word + ", 0)", x.often(word, 0), Checks.UNKNOWN);
            c.due("often(" + word + ", 1000)", x.often(word, 1000), Checks.UNKNOWN);
        }
        c.due("OFTEN of all", x.told(3), 1001);
        c.due("none of none", new WordsFirst().often(0, 1), Checks.UNKNOWN);
    }

    private static void has(Checks c) {
        c.sentence(8, "How often a SIGN HAS a SOUND, of all its places. UNKNOWN, OUTSIDE.");
        WordsFirst x = Checks.book("a=0 3", "j=9 4", "ja=90 5");
        c.due("the first SIGN and SOUND", x.has(0, 0, 0), 1);
        c.due("the last SIGN and SOUND", x.has(9, 9, 0), 1);
        for (int sign : NO_SIGNS) {
            c.due("SIGN " + sign, x.has(sign, 0, 0), Checks.LOST - 1);
            c.due("SIGN " + sign + ", no SOUND", x.has(sign, 10, 0), Checks.LOST - 1);
            c.due("SIGN " + sign + ", no part", x.has(sign, 0, 2), Checks.LOST - 1);
            c.due("SOUND " + sign, x.has(0, sign, 0), Checks.LOST - 2);
            c.due("SOUND " + sign + " of a SIGN that stands nowhere", x.has(5, sign, 1), Checks.LOST - 2);
        }
        for (int part : NO_PARTS) c.due("part " + part, x.has(0, 0, part), Checks.LOST - 2);
        c.sentence(8, "A SIGN HAS a SOUND: of all places of THE BOOK where it stands (each counted as often as its WORD) those where it has that");
        WordsFirst y = Checks.book("aaaaa=01000 999", "aa=22 1");
        c.due("one place of six, the upper number", y.has(0, 1, 0), 999);
        c.due("one place of six, the lower number", y.has(0, 1, 1), 4997);
        c.due("two places of one WORD", y.has(0, 2, 0), 2);
        WordsFirst z = new WordsFirst();
        for (String text : new String[] {"aaaaa", "aaaab", "aaaac", "aaaad", "aaaae", "aaaaf", "aaaag", "aaaah", "aaaai", "aaaaj", "aaaba", "aaaca"}) {
            Checks.add(z, text + "=00001", 999);
        }
        c.due("the greatest numbers: 46 of 49 places, the upper one", z.has(0, 0, 0), 46);
        c.due("the greatest numbers: 46 of 49 places, the lower one", z.has(0, 0, 1), 49);
    }

    private static void common(Checks c) {
        c.sentence(9, "COMMON: the SOUND that a SIGN has most, the least such (NONE: it stands nowhere).");
        WordsFirst x = Checks.book("aj=95 7", "a=0 7", "aa=44 3");
        c.due("of 0 and 9 with like numbers", x.common(0), 0);
        x.often(2, 4);
        c.due("a WORD in which it stands twice", x.common(0), 4);
        x.often(0, 8);
        c.due("of 4 and 9 with like numbers", x.common(0), 4);
        x.often(0, 9);
        c.due("the greatest SOUND, if it has it most", x.common(0), 9);
        c.due("the last SIGN", x.common(9), 5);
        for (int sign = 1; sign < 9; sign++) c.due("nowhere: " + sign, x.common(sign), Checks.NONE);
        for (int sign = 0; sign < 10; sign++) c.due("an empty BOOK: " + sign, new WordsFirst().common(sign), Checks.NONE);
        c.sentence(9, "COMMON. UNKNOWN.");
        for (int sign : NO_SIGNS) c.due("common(" + sign + ")", x.common(sign), Checks.UNKNOWN);
    }

    private static void ruled(Checks c) {
        c.sentence(10, "RULED. OUTSIDE.");
        WordsFirst x = Checks.book("aa=01 9");
        c.due("half, the upper number", x.ruled(0), 1);
        c.due("half, the lower number", x.ruled(1), 2);
        for (int part : NO_PARTS) {
            c.due("ruled(" + part + ")", x.ruled(part), Checks.LOST - 2);
            c.due("ruled(" + part + ") of an empty BOOK", new WordsFirst().ruled(part), Checks.LOST - 2);
        }
        c.sentence(10, "RULED: of all places those where a SIGN has its COMMON SOUND.");
        WordsFirst y = Checks.book("ab=01 4", "bba=111 4");
        c.due("places of WORDS that are not REGULAR, too: the upper number", y.ruled(0), 4);
        c.due("places of WORDS that are not REGULAR, too: the lower number", y.ruled(1), 5);
        WordsFirst all = Checks.bookOf(12, 999);
        c.due("all, the upper number", all.ruled(0), 1);
        c.due("all, the lower number", all.ruled(1), 1);
    }
}
