/** The boundaries that the document's "What it is" and "Terms" name for all calls. */
final class BoundaryTerms {
    private BoundaryTerms() {
    }

    static void run(Checks c) {
        lastCall(c);
        constants(c);
        whichRefusal(c);
        cutQuotients(c);
        lowestTerms(c);
        lostFractions(c);
    }

    private static void lastCall(Checks c) {
        c.sentence(Checks.TERMS, "An object is used for at most 512 calls after it has been made");
        WordsFirst x = new WordsFirst();
        int calls = 0;
        for (char sign : "ab=01".toCharArray()) {
            x.say(sign);
            calls++;
        }
        x.word(999);
        calls++;
        int due = 999;
        for (; calls < 511; calls++) {
            int v = calls % 999 + 1;
            c.due("call " + (calls + 1), x.often(0, v), due);
            due = v;
        }
        c.due("the 512th call", x.about(0, 1), due);
    }

    private static void constants(Checks c) {
        c.sentence(Checks.TERMS, "The constants: `UNKNOWN = -1, OUTSIDE = -2, STATE = -3, FULL = -4, NO = -5, NONE = -6`");
        c.due("UNKNOWN", WordsFirst.UNKNOWN, -1);
        c.due("OUTSIDE", WordsFirst.OUTSIDE, -2);
        c.due("STATE", WordsFirst.STATE, -3);
        c.due("FULL", WordsFirst.FULL, -4);
        c.due("NO", WordsFirst.NO, -5);
        c.due("NONE", WordsFirst.NONE, -6);
        c.sentence(Checks.TERMS, "`LOST = -1000000000000000000L`: What is told of fractions that are refused");
        c.due("LOST", WordsFirst.LOST, -1000000000000000000L);
    }

    /** Each two refusals that can fit one call. */
    private static void whichRefusal(Checks c) {
        c.sentence(Checks.TERMS, "Calls that are refused answer, the first of these that fits: UNKNOWN -1");
        WordsFirst x = Checks.bookOf(12, 1);
        c.due("no such WORD, no such what", x.about(12, 4), Checks.UNKNOWN);
        for (int i = 0; i < 20; i++) x.answer(0, true);
        c.due("no such WORD, 20 ANSWERS", x.answer(12, true), Checks.UNKNOWN);
        x.clear();
        x.answer(0, true);
        x.answer(0, false);
        c.due("no such SIGN, no such part, MAY is none", x.lacks(10, 2), Checks.LOST + Checks.UNKNOWN);
        c.due("no such part, MAY is none", x.lacks(0, 2), Checks.LOST + Checks.OUTSIDE);
        c.due("OFTEN, a FAULT, a full BOOK", x.word(0), Checks.OUTSIDE);
        c.due("a FAULT, a full BOOK", x.word(1), Checks.NO);
        Checks.spell(x, "a=5");
        c.due("OFTEN, letters that there are, a full BOOK", x.word(1000), Checks.OUTSIDE);
        c.due("letters that there are, a full BOOK", x.word(1), Checks.NO);
        x.wipe();
        Checks.spell(x, "ba=10");
        c.due("OFTEN, a full BOOK", x.word(0), Checks.OUTSIDE);
        c.due("a full BOOK", x.word(1), Checks.FULL);
        for (int i = 5; i < 14; i++) x.say('0');
        c.due("a code that is none, a full PAD", x.say(127), Checks.OUTSIDE);
        c.due("a full PAD", x.say('0'), Checks.FULL);
        c.due("an IMAGE that there is not, so that it was not kept either", x.restore(2), Checks.OUTSIDE);
    }

    private static void cutQuotients(Checks c) {
        c.sentence(Checks.TERMS, "Quotients are cut.");
        WordsFirst x = Checks.book("a=0 2", "b=1 1");
        x.knows(0, 0, 1);
        c.due("2000 by 3", x.line(0), 666);
        x.often(0, 1);
        x.often(1, 999);
        c.due("1000 by 1000", x.line(0), 1);
        Checks.add(x, "c=2", 1);
        c.due("1000 by 1001", x.line(0), 0);
    }

    private static void lowestTerms(Checks c) {
        c.sentence(Checks.TERMS, "Fractions are told by part: 0 the upper, 1 the lower number, in lowest terms (0 by 1 for nothing)");
        WordsFirst x = Checks.book("a=0 12", "ab=11 18");
        fraction(c, "has 12 by 30", x.has(0, 0, 0), x.has(0, 0, 1), 2, 5);
        fraction(c, "has 0 by 30", x.has(0, 2, 0), x.has(0, 2, 1), 0, 1);
        fraction(c, "has 18 by 18", x.has(1, 1, 0), x.has(1, 1, 1), 1, 1);
        fraction(c, "has 0 by 0", x.has(2, 0, 0), x.has(2, 0, 1), 0, 1);
        fraction(c, "ruled 36 by 48", x.ruled(0), x.ruled(1), 3, 4);
        WordsFirst empty = new WordsFirst();
        fraction(c, "ruled 0 by 0", empty.ruled(0), empty.ruled(1), 0, 1);
        fraction(c, "lacks 512 by 1024", empty.lacks(9, 0), empty.lacks(9, 1), 1, 2);
        WordsFirst y = Checks.book("ab=01 1", "b=1 1");
        y.answer(1, true);
        fraction(c, "lacks 0 by 512", y.lacks(1, 0), y.lacks(1, 1), 0, 1);
        y.answer(0, false);
        fraction(c, "lacks 256 by 256", y.lacks(0, 0), y.lacks(0, 1), 1, 1);
        WordsFirst z = Checks.book("a=0 999", "ab=22 1");
        fraction(c, "no common divisor", z.has(0, 0, 0), z.has(0, 0, 1), 999, 1000);
        fraction(c, "1 by 1000", z.has(0, 2, 0), z.has(0, 2, 1), 1, 1000);
        fraction(c, "1 by 1", z.has(1, 2, 0), z.has(1, 2, 1), 1, 1);
        z.often(0, 1);
        fraction(c, "1 by 2", z.has(0, 0, 0), z.has(0, 0, 1), 1, 2);
        fraction(c, "2 by 3", z.ruled(0), z.ruled(1), 2, 3);
        z.often(0, 2);
        z.often(1, 4);
        fraction(c, "2 by 6", z.has(0, 0, 0), z.has(0, 0, 1), 1, 3);
    }

    private static void fraction(Checks c, String what, long upper, long lower, long dueUpper, long dueLower) {
        c.due(what + ", the upper number", upper, dueUpper);
        c.due(what + ", the lower number", lower, dueLower);
    }

    private static void lostFractions(Checks c) {
        c.sentence(Checks.TERMS, "refused with LOST and the refusal.");
        WordsFirst x = Checks.book("a=0 1");
        c.due("has, UNKNOWN", x.has(10, 0, 0), -1000000000000000001L);
        c.due("has, OUTSIDE", x.has(0, 10, 0), -1000000000000000002L);
        c.due("ruled, OUTSIDE", x.ruled(2), -1000000000000000002L);
        c.due("lacks, UNKNOWN", x.lacks(10, 0), -1000000000000000001L);
        c.due("lacks, OUTSIDE", x.lacks(0, 2), -1000000000000000002L);
        x.answer(0, true);
        x.answer(0, false);
        c.due("lacks, NO", x.lacks(0, 0), -1000000000000000005L);
    }
}
