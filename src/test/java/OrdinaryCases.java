import java.util.ArrayList;
import java.util.List;
import java.util.function.ToLongFunction;

/** The document's sentences that name no boundary. */
final class OrdinaryCases {
    private static final String[] FIVE = {"ab=01 10", "ba=10 6", "ac=02 4", "cb=20 3", "b=1 2"};

    private OrdinaryCases() {
    }

    static void run(Checks c) {
        whatItIs(c);
        laterCalls(c);
        refusals(c);
        changeNothing(c);
        noneAndLost(c);
        soundsThere(c);
        fault(c);
        orderOfAllTen(c);
        mostOfAny(c);
        mostAsTold(c);
        answersOfOne(c);
        mayHowMany(c);
        respelt(c);
        lessonOfOneSign(c);
        itselfByRounds(c);
    }

    /** One run through all that the document's first sentence names, in its order. */
    private static void whatItIs(Checks c) {
        c.sentence(Checks.TERMS, "Which words first: words told as small texts, their signs and their sounds, how often they stand in books; "
            + "which sound a sign has how often, how many words go by the rule;");
        WordsFirst x = Checks.book(FIVE);
        c.due("WORDS", x.told(1), 5);
        c.due("18 of 21 places, the upper number", x.has(1, 1, 0), 6);
        c.due("18 of 21 places, the lower number", x.has(1, 1, 1), 7);
        c.due("45 of 48 places, the upper number", x.ruled(0), 15);
        c.due("45 of 48 places, the lower number", x.ruled(1), 16);
        c.sentence(Checks.TERMS, "children who know some signs, some words whole, mix up two of them;");
        c.due("child 0 knows a, b", x.knows(0, 0, 3), 0);
        c.due("child 1 knows cb whole", x.knows(1, 1, 8), 0);
        c.due("child 2 knows a, b, c", x.knows(2, 0, 7), 0);
        c.due("child 2 mixes up a, b", x.mix(2, 0, 1), Checks.NONE);
        reads(c, x);
        plans(c, x);
        tests(c, x);
        c.sentence(Checks.TERMS, "images.");
        c.due("kept", x.image(0), 1);
        x.knows(0, 0, 0);
        c.due("guesses no more", x.share(0), 0);
        c.due("as it was", x.restore(0), 1);
        c.due("reads again", x.share(0), 18);
    }

    private static void reads(Checks c, WordsFirst x) {
        c.sentence(Checks.TERMS, "how each reads a word, by sounds, whole, guessed by its first sign, as which other one;");
        int[][] hows = {{1, 1, 2, 3, 1}, {3, 3, 3, 0, 3}, {1, 1, 1, 1, 1}, {3, 3, 3, 3, 3}};
        int none = Checks.NONE;
        int[][] words = {{0, 1, 0, none, 4}, {none, none, none, 3, none}, {1, 0, none, 3, none}, {none, none, none, none, none}};
        for (int child = 0; child < 4; child++) {
            for (int word = 0; word < 5; word++) {
                c.due("how " + child + " reads " + word, x.read(child, word, 0), hows[child][word]);
                c.due("as which " + child + " reads " + word, x.read(child, word, 1), words[child][word]);
            }
        }
        c.sentence(Checks.TERMS, "how much of a book each can read;");
        int[] shares = {18, 3, 3, 0};
        for (int child = 0; child < 4; child++) c.due("child " + child, x.share(child), shares[child]);
    }

    private static void plans(Checks c, WordsFirst x) {
        c.sentence(Checks.TERMS, "the order of signs by which most can be read soonest, exactly;");
        c.due("2, 18 and eight times 22", x.order(-1), 2 + 18 + 8 * 22);
        int[] row = {1, 0, 2, 3, 4, 5, 6, 7, 8, 9};
        for (int i = 0; i < 10; i++) c.due("SIGN " + i, x.order(i), row[i]);
        c.sentence(Checks.TERMS, "with so many signs and so many whole words most;");
        c.due("a, b, and ac whole", x.most(2, 1, 0), 22);
        c.due("a, b", x.most(2, 1, 1), 3);
        c.due("ac", x.most(2, 1, 2), 4);
        c.sentence(Checks.TERMS, "the longest tale with what one has;");
        c.due("three", x.tale(0, -1), 3);
        c.due("ab", x.tale(0, 0), 0);
        c.due("b", x.tale(0, 1), 4);
        c.due("ba", x.tale(0, 2), 1);
        c.sentence(Checks.TERMS, "lessons shared among four;");
        c.due("24 and 28 more", x.shared(3, -1), 52);
        int[] lessons = {0, 1, 0, 2};
        for (int child = 0; child < 4; child++) c.due("LESSONS of " + child, x.shared(3, child), lessons[child]);
        c.sentence(Checks.TERMS, "when reading itself teaches;");
        c.due("18 of 25", x.line(0), 720);
        c.due("by this line two more", x.itself(0, 720, 0), 2);
        c.due("by this line all", x.itself(0, 720, 1), 25);
        c.due("by a higher line none", x.itself(0, 721, 0), 0);
    }

    private static void tests(Checks c, WordsFirst x) {
        c.sentence(Checks.TERMS, "who lacks what, from what was read right and wrong, the next word that tells most, the least test;");
        c.due("b tells most", x.tells(), 4);
        c.due("ab right", x.answer(0, true), 1);
        c.due("ac wrong", x.answer(2, false), 2);
        c.due("c and any of seven", x.may(), 128);
        c.due("c surely, the upper number", x.lacks(2, 0), 1);
        c.due("c surely, the lower number", x.lacks(2, 1), 1);
        c.due("d perhaps, the upper number", x.lacks(3, 0), 1);
        c.due("d perhaps, the lower number", x.lacks(3, 1), 2);
        c.due("ab and ac", x.test(), 5);
        c.sentence(Checks.TERMS, "a new spelling and its price;");
        c.due("cb becomes ca", x.respelt(3, 1), 0);
        c.due("three times", x.price(0), 3);
        c.due("no two alike", x.price(1), Checks.NONE);
    }

    private static void laterCalls(Checks c) {
        c.sentence(Checks.TERMS, "what later calls answer is free.");
        WordsFirst x = Checks.book(FIVE);
        int calls = 0;
        for (; calls < 700; calls++) x.shared(calls % 13, x.read(calls % 4, calls % 5, 0) - 1);
        c.due("they end, whatever they answer", calls, 700);
    }

    private static void refusals(Checks c) {
        c.sentence(Checks.TERMS, "UNKNOWN -1 (there is no such WORD, CHILD, SIGN), OUTSIDE -2 (another number is not as told), "
            + "STATE -3 (as told), NO -5 (as told), FULL -4.");
        WordsFirst x = Checks.book(FIVE);
        c.due("no such WORD", x.about(5, 0), -1);
        c.due("no such CHILD", x.share(4), -1);
        c.due("no such SIGN", x.common(10), -1);
        c.due("a number that is not as told", x.price(2), -2);
        c.due("an IMAGE that was not kept", x.restore(1), -3);
        c.due("a FAULT", x.word(1), -5);
        for (int i = 0; i < 20; i++) x.answer(0, true);
        c.due("20 ANSWERS", x.answer(0, true), -4);
    }

    /** An object that refuses in each way: a PAD with a FAULT, ANSWERS by which MAY is none, one IMAGE kept. */
    private static WordsFirst refusing() {
        WordsFirst x = Checks.book(FIVE);
        x.knows(0, 0, 5);
        x.knows(0, 1, 2);
        x.mix(0, 0, 2);
        x.knows(3, 0, 1023);
        x.answer(0, true);
        x.image(0);
        x.answer(0, false);
        Checks.spell(x, "ab=0");
        return x;
    }

    /** What can be seen of an object; what its IMAGES keep comes last, as it must be taken back for it. */
    private static List<Long> seen(WordsFirst x) {
        List<Long> all = new ArrayList<>();
        seenNow(x, all);
        all.add((long) x.fault());
        for (int n = 0; n < 2; n++) {
            all.add((long) x.restore(n));
            seenNow(x, all);
        }
        return all;
    }

    private static void seenNow(WordsFirst x, List<Long> all) {
        for (int what = 0; what < 34; what++) all.add((long) x.told(what));
        for (int word = 0; word < x.told(1); word++) {
            for (int what = 0; what < 25; what++) {
                if (what < 4 || what % 10 < 5) all.add((long) x.about(word, what));
            }
        }
        all.add((long) x.may());
        all.add((long) x.tale(0, -1));
        all.add((long) x.shared(5, -1));
    }

    private static void changeNothing(Checks c) {
        c.sentence(Checks.TERMS, "They change nothing.");
        List<ToLongFunction<WordsFirst>> refused = List.of(x -> x.say(32), x -> x.say(127), x -> x.word(0), x -> x.word(5), x -> x.about(5, 1),
            x -> x.about(0, 15), x -> x.often(5, 3), x -> x.often(0, 0), x -> x.often(0, 1000), x -> x.has(10, 0, 0), x -> x.common(-1),
            x -> x.ruled(2), x -> x.knows(4, 0, 1), x -> x.knows(0, 2, 1), x -> x.knows(0, 0, 1024), x -> x.knows(0, 1, 32), x -> x.mix(4, 0, 1),
            x -> x.mix(0, 1, 1), x -> x.mix(0, -1, 3), x -> x.mix(0, 3, 10), x -> x.read(0, 5, 0), x -> x.share(-1), x -> x.gives(1024, 0),
            x -> x.gives(0, 32), x -> x.most(11, 0, 0), x -> x.tale(4, 0), x -> x.answer(5, true), x -> x.answer(-1, false), x -> x.lacks(0, 0),
            x -> x.respelt(0, 5), x -> x.price(2), x -> x.lessons(0, 13), x -> x.shared(13, 0), x -> x.itself(0, 1001, 0), x -> x.line(4),
            x -> x.image(2), x -> x.image(-1), x -> x.restore(1), x -> x.restore(2), x -> x.told(34));
        List<Long> due = seen(refusing());
        for (int i = 0; i < refused.size(); i++) {
            WordsFirst x = refusing();
            long answer = refused.get(i).applyAsLong(x);
            c.due("refused call " + i + " is refused", answer < 0 ? 1 : 0, 1);
            c.due("refused call " + i + " changes nothing", seen(x).equals(due) ? 1 : 0, 1);
        }
        WordsFirst full = refusing();
        WordsFirst like = refusing();
        for (int i = 2; i < 20; i++) {
            full.answer(1, true);
            like.answer(1, true);
        }
        for (int i = 4; i < 14; i++) {
            full.say('!');
            like.say('!');
        }
        c.due("a full PAD", full.say('!'), Checks.FULL);
        c.due("20 ANSWERS", full.answer(1, false), Checks.FULL);
        c.due("they change nothing", seen(full).equals(seen(like)) ? 1 : 0, 1);
    }

    private static void noneAndLost(Checks c) {
        c.sentence(Checks.TERMS, "What refused calls answer; NONE: there is none.");
        WordsFirst x = Checks.book(FIVE);
        c.due("no SOUND", x.common(9), Checks.NONE);
        c.due("no third SIGN", x.about(0, 12), Checks.NONE);
        c.due("no two MIXED UP", x.told(30), Checks.NONE);
        c.due("no WORD that it is read as", x.read(0, 0, 1), Checks.NONE);
        c.due("no WORD of a TALE", x.tale(0, 0), Checks.NONE);
        c.due("no CLASH", x.price(1), Checks.NONE);
        Checks.spell(x, "d=3");
        c.due("no FAULT", x.fault(), Checks.NONE);
        c.sentence(Checks.TERMS, "What is told of fractions that are refused: LOST and the refusal.");
        c.due("has", x.has(-1, 0, 0), WordsFirst.LOST + WordsFirst.UNKNOWN);
        c.due("ruled", x.ruled(-1), WordsFirst.LOST + WordsFirst.OUTSIDE);
        c.due("lacks", x.lacks(3, 7), WordsFirst.LOST + WordsFirst.OUTSIDE);
    }

    private static void soundsThere(Checks c) {
        c.sentence(6, "of each SIGN the SOUND that it has there.");
        WordsFirst x = Checks.book("cab=957 1", "aabja=43210 1");
        int[][] signs = {{2, 0, 1}, {0, 0, 1, 9, 0}};
        int[][] sounds = {{9, 5, 7}, {4, 3, 2, 1, 0}};
        for (int word = 0; word < 2; word++) {
            for (int i = 0; i < signs[word].length; i++) {
                c.due("SIGN " + i + " of " + word, x.about(word, 10 + i), signs[word][i]);
                c.due("SOUND " + i + " of " + word, x.about(word, 20 + i), sounds[word][i]);
            }
        }
    }

    private static void fault(Checks c) {
        c.sentence(4, "THE FAULT; NONE.");
        WordsFirst x = new WordsFirst();
        int[] dues = {1, 2, 3, 4, Checks.NONE, 5, 5};
        String text = "ab=01!2";
        for (int i = 0; i < text.length(); i++) {
            x.say(text.charAt(i));
            c.due(text.substring(0, i + 1), x.fault(), dues[i]);
        }
    }

    private static int sumBy(WordsFirst x, int[] row) {
        int sum = 0;
        int signs = 0;
        for (int sign : row) {
            signs |= 1 << sign;
            sum += x.gives(signs, 0);
        }
        return sum;
    }

    private static void orderOfAllTen(Checks c) {
        c.sentence(16, "ORDER: all ten SIGNS one behind another: the greatest sum of what the first one, the first two, ... all ten give");
        String[][] books = {FIVE, {"abc=012 7", "cde=234 5", "efg=456 9", "gha=670 3", "ij=89 8", "b=1 1", "f=5 2"},
            {"jih=987 30", "hg=76 20", "gf=65 20", "fa=50 1", "jb=91 11", "aa=00 2", "i=3 29"}};
        for (String[] book : books) {
            WordsFirst x = Checks.book(book);
            int[] row = new int[10];
            for (int i = 0; i < 10; i++) row[i] = x.order(i);
            int sum = x.order(-1);
            c.due("what the beginnings give", sumBy(x, row), sum);
            WordsFirst y = Checks.book(book);
            int better = 0;
            for (int i = 0; i < 10; i++) {
                for (int j = 0; j < i; j++) {
                    int[] other = row.clone();
                    other[i] = row[j];
                    other[j] = row[i];
                    if (sumBy(y, other) > sum) better++;
                }
            }
            c.due("swaps of two that give more", better, 0);
        }
    }

    /** The greatest that any k SIGNS with any w WHOLES give, each asked for by itself. */
    private static int greatest(int k, int w) {
        WordsFirst x = Checks.book(FIVE);
        int calls = 0;
        int best = 0;
        for (int signs = 0; signs < 1024; signs++) {
            for (int wholes = 0; wholes < 32; wholes++) {
                if (Integer.bitCount(signs) != k || Integer.bitCount(wholes) != w) continue;
                if (calls == 400) {
                    x = Checks.book(FIVE);
                    calls = 0;
                }
                best = Math.max(best, x.gives(signs, wholes));
                calls++;
            }
        }
        return best;
    }

    private static void mostOfAny(Checks c) {
        c.sentence(17, "MOST by k SIGNS and w WHOLES: the greatest that any k SIGNS with any w WORDS whole give;");
        WordsFirst x = Checks.book(FIVE);
        for (int k = 0; k <= 10; k++) {
            for (int w = 0; w <= 5; w++) c.due(k + " SIGNS, " + w + " WHOLES", x.most(k, w, 0), greatest(k, w));
        }
    }

    private static void mostAsTold(Checks c) {
        c.sentence(17, "MOST: what it gives (what = 0), SIGNS (1), WHOLES (2) as bits.");
        WordsFirst x = Checks.book(FIVE);
        c.due("b, and ab whole: 12", x.most(1, 1, 0), 12);
        c.due("b", x.most(1, 1, 1), 2);
        c.due("ab", x.most(1, 1, 2), 1);
        c.due("a, b, c, and cb whole: all", x.most(3, 1, 0), 25);
        c.due("a, b, c", x.most(3, 1, 1), 7);
        c.due("cb", x.most(3, 1, 2), 8);
        for (int k = 0; k <= 10; k++) {
            for (int w = 0; w <= 5; w++) {
                c.due("SIGNS and WHOLES give it", x.gives(x.most(k, w, 1), x.most(k, w, 2)), x.most(k, w, 0));
                c.due("so many SIGNS", Integer.bitCount(x.most(k, w, 1)), k);
            }
        }
    }

    private static void answersOfOne(Checks c) {
        c.sentence(19, "ANSWERS: what one who lacks some SIGNS read: a WORD, right or wrong");
        int[] signs = {3, 3, 5, 6, 2};
        for (int lacking = 0; lacking < 8; lacking++) {
            WordsFirst x = Checks.book(FIVE);
            for (int word = 0; word < 5; word++) {
                boolean right = word != 3 && (signs[word] & lacking) == 0;
                c.due("ANSWER " + word, x.answer(word, right), word + 1);
            }
            c.due("ANSWERS", x.told(2), 5);
            // Whether he lacks c is told by "ac" alone, if he does not lack a; whether a, by "ab", if not b.
            boolean b = (lacking & 2) != 0;
            boolean a = (lacking & 1) != 0;
            int left = b ? (a || (lacking & 4) != 0 ? 3 : 1) : a ? 2 : 1;
            c.due("what may be lacked by one who lacks " + lacking, x.may(), left * 128);
        }
    }

    private static void mayHowMany(Checks c) {
        c.sentence(21, "MAY: how many sets.");
        WordsFirst x = Checks.book(FIVE);
        c.due("all", x.may(), 1024);
        x.answer(0, false);
        c.due("a or b", x.may(), 768);
        x.answer(4, true);
        c.due("a, not b", x.may(), 256);
        x.answer(2, false);
        c.due("ac tells nothing more", x.may(), 256);
    }

    private static void respelt(Checks c) {
        c.sentence(25, "RESPELT: a WORD's SOUNDS so written.");
        // 0 is written with b (20 places to 12 of a), 1 with a (24 to 3 of b), 2 with c, 3 with d (4 to 3 of e).
        WordsFirst x = Checks.book("ba=01 20", "ac=02 5", "aad=013 4", "eab=301 3");
        int[][] dues = {{1, 0}, {1, 2}, {1, 0, 3}, {3, 1, 0}};
        for (int word = 0; word < 4; word++) {
            for (int place = 0; place < 5; place++) {
                int due = place < dues[word].length ? dues[word][place] : Checks.NONE;
                c.due("place " + place + " of " + word, x.respelt(word, place), due);
            }
        }
        c.due("ac, aad, eab by 1, 1, 3 places", x.price(0), 5 + 4 + 9);
    }

    private static void lessonOfOneSign(Checks c) {
        c.sentence(27, "LESSONS: one teaches one CHILD one SIGN.");
        int[] known = {3, 0, 8, 6};
        for (int child = 0; child < 4; child++) {
            WordsFirst x = Checks.book(FIVE);
            x.knows(child, 0, known[child]);
            int taught = x.lessons(child, 1);
            c.due("it is only asked, not taught", x.told(10 + child), known[child]);
            int best = 0;
            for (int sign = 0; sign < 10; sign++) {
                if ((known[child] >> sign & 1) != 0) continue;
                x.knows(child, 0, known[child] | 1 << sign);
                best = Math.max(best, x.share(child));
            }
            c.due("one SIGN more of child " + child, taught, best);
            for (int other = 0; other < 4; other++) {
                if (other != child) c.due("it is not another one's", x.lessons(other, 0), 0);
            }
        }
    }

    private static void itselfByRounds(Checks c) {
        c.sentence(29, "ITSELF: a CHILD reads by ROUNDS");
        WordsFirst x = Checks.book(FIVE);
        x.knows(1, 1, 8);
        c.due("ROUNDS", x.itself(1, 120, 0), 4);
        c.due("the SHARE then", x.itself(1, 120, 1), 25);
        c.due("it is only asked, not read", x.told(21), 8);
        // The same ROUNDS one by one.
        int[] wholes = {9, 11, 15, 31};
        int[] shares = {13, 19, 23, 25};
        for (int round = 0; round < 4; round++) {
            x.knows(1, 1, wholes[round]);
            c.due("the SHARE behind ROUND " + (round + 1), x.share(1), shares[round]);
            c.due("ROUNDS left", x.itself(1, 120, 0), 3 - round);
        }
    }
}
