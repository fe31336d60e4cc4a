import java.util.Arrays;

/**
 * Which words first: a small book of words with their signs and sounds, children who read it,
 * and what should be taught next. The document's promises stand at the public methods by number.
 */
public final class WordsFirst {
    public static final int UNKNOWN = -1, OUTSIDE = -2, STATE = -3, FULL = -4, NO = -5, NONE = -6;
    public static final long LOST = -1000000000000000000L;

    private static final int PAD_SIZE = 14;
    private static final int LOWEST_CODE = 33;
    private static final int HIGHEST_CODE = 126;
    private static final int SIGN_COUNT = 10;
    private static final int SIGN_SETS = 1024;
    private static final int MOST_WORDS = 12;
    private static final int WORD_SETS = 4096;
    private static final int LONGEST = 5;
    private static final int MOST_OFTEN = 999;
    private static final int CHILD_COUNT = 4;
    private static final int MOST_ANSWERS = 20;
    private static final int MOST_LESSONS = 12;
    private static final int THOUSAND = 1000;
    private static final int IMAGE_COUNT = 2;

    private static final int READ_WHOLE = 0;
    private static final int READ_SOUNDED = 1;
    private static final int READ_GUESSED = 2;
    private static final int READ_NOT = 3;

    private final Pad pad;
    private final Room room;
    private final Rule rule;
    private final Reader reader;
    private final SignPlan signPlan;
    private final TaleFinder taleFinder;
    private final Doubt doubt;
    private final LessonPlan lessonPlan;
    private final Room[] images;
    private final boolean[] imageKept;

    /** Promise 1. */
    public WordsFirst() {
        pad = new Pad();
        room = new Room();
        rule = new Rule(room.book);
        reader = new Reader(room.book, rule, room.children);
        signPlan = new SignPlan(room.book, rule);
        taleFinder = new TaleFinder(room.book);
        doubt = new Doubt(room.book, rule, room.answers);
        lessonPlan = new LessonPlan(room.book, room.children, reader);
        images = new Room[IMAGE_COUNT];
        for (int n = 0; n < IMAGE_COUNT; n++) {
            images[n] = new Room();
        }
        imageKept = new boolean[IMAGE_COUNT];
        rule.refresh();
    }

    // ---- 1 words

    /** Promise 2. */
    public int say(int sign) {
        if (sign < LOWEST_CODE || sign > HIGHEST_CODE) {
            return OUTSIDE;
        }
        if (pad.size >= PAD_SIZE) {
            return FULL;
        }
        pad.signs[pad.size] = sign;
        pad.size++;
        return pad.size;
    }

    /** Promise 3. */
    public int wipe() {
        int were = pad.size;
        pad.size = 0;
        return were;
    }

    /** Promise 4. */
    public int fault() {
        return pad.findFault();
    }

    /** Promise 5. */
    public int word(int often) {
        if (often < 1 || often > MOST_OFTEN) {
            return OUTSIDE;
        }
        if (pad.findFault() != NONE || room.book.hasLettersOf(pad)) {
            return NO;
        }
        if (room.book.size >= MOST_WORDS) {
            return FULL;
        }
        room.book.add(pad, often);
        pad.size = 0;
        bookChanged();
        return room.book.size - 1;
    }

    /** Promise 6. */
    public int about(int word, int what) {
        if (!room.book.holds(word)) {
            return UNKNOWN;
        }
        if (what >= 10 && what < 10 + LONGEST) {
            return room.book.signOrNone(word, what - 10);
        }
        if (what >= 20 && what < 20 + LONGEST) {
            return room.book.soundOrNone(word, what - 20);
        }
        switch (what) {
            case 0:
                return room.book.length[word];
            case 1:
                return room.book.times[word];
            case 2:
                return room.book.signBits[word];
            case 3:
                return rule.isRegular(word) ? 1 : 0;
            default:
                return OUTSIDE;
        }
    }

    /** Promise 7. */
    public int often(int word, int v) {
        if (!room.book.holds(word)) {
            return UNKNOWN;
        }
        if (v < 1 || v > MOST_OFTEN) {
            return OUTSIDE;
        }
        int was = room.book.times[word];
        room.book.times[word] = v;
        bookChanged();
        return was;
    }

    /** Promise 8. */
    public long has(int sign, int sound, int part) {
        if (!isSign(sign)) {
            return LOST + UNKNOWN;
        }
        if (sound < 0 || sound >= SIGN_COUNT || !isPart(part)) {
            return LOST + OUTSIDE;
        }
        return fractionPart(rule.heard[sign * SIGN_COUNT + sound], rule.places[sign], part);
    }

    /** Promise 9. */
    public int common(int sign) {
        return isSign(sign) ? rule.commonSound[sign] : UNKNOWN;
    }

    /** Promise 10. */
    public long ruled(int part) {
        if (!isPart(part)) {
            return LOST + OUTSIDE;
        }
        return fractionPart(rule.placesByRule(), rule.placesInAll(), part);
    }

    // ---- 2 children

    /** Promise 11. */
    public int knows(int child, int what, int v) {
        if (!isChild(child)) {
            return UNKNOWN;
        }
        if (what != 0 && what != 1) {
            return OUTSIDE;
        }
        if (what == 0 ? !isSignSet(v) : !room.book.isWordSet(v)) {
            return OUTSIDE;
        }
        int[] row = what == 0 ? room.children.known : room.children.wholes;
        int was = row[child];
        row[child] = v;
        childChanged(child);
        return was;
    }

    /** Promise 12. */
    public int mix(int child, int sign, int other) {
        if (!isChild(child)) {
            return UNKNOWN;
        }
        boolean none = sign == -1 && other == -1;
        if (!none && (!isSign(sign) || !isSign(other) || sign == other)) {
            return UNKNOWN;
        }
        int was = room.children.mixedUp(child);
        room.children.mixedLess[child] = Math.min(sign, other);
        room.children.mixedMore[child] = Math.max(sign, other);
        childChanged(child);
        return was;
    }

    /** Promise 13. */
    public int read(int child, int word, int what) {
        if (!isChild(child) || !room.book.holds(word)) {
            return UNKNOWN;
        }
        if (what != 0 && what != 1) {
            return OUTSIDE;
        }
        return what == 0 ? reader.wayOf(child, word) : reader.readAs(child, word);
    }

    /** Promise 14. */
    public int share(int child) {
        return isChild(child) ? room.book.timesOf(reader.readable(child)) : UNKNOWN;
    }

    /** Promise 15. */
    public int gives(int signs, int wholes) {
        if (!isSignSet(signs) || !room.book.isWordSet(wholes)) {
            return OUTSIDE;
        }
        return room.book.timesOf(rule.givenBy(signs) | wholes);
    }

    // ---- 3 orders, tales

    /** Promise 16. */
    public int order(int i) {
        if (i < -1 || i >= SIGN_COUNT) {
            return NONE;
        }
        signPlan.findOrder();
        return i == -1 ? signPlan.orderSum : signPlan.orderRow[i];
    }

    /** Promise 17. */
    public int most(int k, int w, int what) {
        if (k < 0 || k > SIGN_COUNT || w < 0 || w > room.book.size || what < 0 || what > 2) {
            return OUTSIDE;
        }
        int signs = signPlan.bestSigns(k, w);
        if (what == 1) {
            return signs;
        }
        int wholes = signPlan.bestWholes(signs, w);
        return what == 2 ? wholes : room.book.timesOf(rule.givenBy(signs) | wholes);
    }

    /** Promise 18. */
    public int tale(int child, int i) {
        if (!isChild(child)) {
            return UNKNOWN;
        }
        if (taleFinder.ofChild != child) {
            taleFinder.find(reader.readable(child));
            taleFinder.ofChild = child;
        }
        if (i == -1) {
            return taleFinder.size;
        }
        return i >= 0 && i < taleFinder.size ? taleFinder.row[i] : NONE;
    }

    // ---- 4 answers, spelling

    /** Promise 19. */
    public int answer(int word, boolean right) {
        if (!room.book.holds(word)) {
            return UNKNOWN;
        }
        if (room.answers.size >= MOST_ANSWERS) {
            return FULL;
        }
        room.answers.add(word, right);
        return room.answers.size;
    }

    /** Promise 20. */
    public int clear() {
        int were = room.answers.size;
        room.answers.size = 0;
        return were;
    }

    /** Promise 21. */
    public int may() {
        doubt.hear();
        return doubt.countSets(0);
    }

    /** Promise 22. */
    public long lacks(int sign, int part) {
        if (!isSign(sign)) {
            return LOST + UNKNOWN;
        }
        if (!isPart(part)) {
            return LOST + OUTSIDE;
        }
        doubt.hear();
        int sets = doubt.countSets(0);
        if (sets == 0) {
            return LOST + NO;
        }
        return fractionPart(doubt.countSets(1 << sign), sets, part);
    }

    /** Promise 23. */
    public int tells() {
        doubt.hear();
        return doubt.bestQuestion();
    }

    /** Promise 24. */
    public int test() {
        return doubt.leastTest();
    }

    /** Promise 25. */
    public int respelt(int word, int place) {
        if (!room.book.holds(word)) {
            return UNKNOWN;
        }
        if (place < 0 || place >= LONGEST) {
            return OUTSIDE;
        }
        return place < room.book.length[word] ? rule.newSign(word, place) : NONE;
    }

    /** Promise 26. */
    public int price(int what) {
        switch (what) {
            case 0:
                return rule.changedPlaces();
            case 1:
                return rule.firstClash();
            default:
                return OUTSIDE;
        }
    }

    // ---- 5 lessons

    /** Promise 27. */
    public int lessons(int child, int n) {
        if (!isChild(child)) {
            return UNKNOWN;
        }
        if (n < 0 || n > MOST_LESSONS) {
            return OUTSIDE;
        }
        lessonPlan.findBest(child);
        return lessonPlan.bestShare(child, n);
    }

    /** Promise 28. */
    public int shared(int n, int child) {
        if (child != -1 && !isChild(child)) {
            return UNKNOWN;
        }
        if (n < 0 || n > MOST_LESSONS) {
            return OUTSIDE;
        }
        lessonPlan.split(n);
        return child == -1 ? lessonPlan.splitSum : lessonPlan.splitRow[child];
    }

    /** Promise 29. */
    public int itself(int child, int line, int what) {
        if (!isChild(child)) {
            return UNKNOWN;
        }
        if (line < 0 || line > THOUSAND || what < 0 || what > 1) {
            return OUTSIDE;
        }
        int before = reader.readable(child);
        int after = reader.readableAtLast(before, line);
        return what == 0 ? Integer.bitCount(after ^ before) : room.book.timesOf(after);
    }

    /** Promise 30. */
    public int line(int child) {
        return isChild(child) ? reader.highestLine(reader.readable(child)) : UNKNOWN;
    }

    /** Promise 31. */
    public int image(int n) {
        if (n < 0 || n >= IMAGE_COUNT) {
            return OUTSIDE;
        }
        images[n].copyFrom(room);
        imageKept[n] = true;
        return 1;
    }

    /** Promise 32. */
    public int restore(int n) {
        if (n < 0 || n >= IMAGE_COUNT) {
            return OUTSIDE;
        }
        if (!imageKept[n]) {
            return STATE;
        }
        room.copyFrom(images[n]);
        bookChanged();
        return 1;
    }

    /** Promise 33. */
    public int told(int what) {
        if (isChild(what - 10)) {
            return room.children.known[what - 10];
        }
        if (isChild(what - 20)) {
            return room.children.wholes[what - 20];
        }
        if (isChild(what - 30)) {
            return room.children.mixedUp(what - 30);
        }
        switch (what) {
            case 0:
                return pad.size;
            case 1:
                return room.book.size;
            case 2:
                return room.answers.size;
            case 3:
                return room.book.timesOf(room.book.allWords());
            default:
                return OUTSIDE;
        }
    }

    // ---- what the calls share

    private void bookChanged() {
        rule.refresh();
        signPlan.orderFound = false;
        for (int child = 0; child < CHILD_COUNT; child++) {
            childChanged(child);
        }
    }

    private void childChanged(int child) {
        if (taleFinder.ofChild == child) {
            taleFinder.ofChild = NONE;
        }
        lessonPlan.forget(child);
    }

    private static boolean isSign(int sign) {
        return sign >= 0 && sign < SIGN_COUNT;
    }

    private static boolean isChild(int child) {
        return child >= 0 && child < CHILD_COUNT;
    }

    private static boolean isSignSet(int bits) {
        return bits >= 0 && bits < SIGN_SETS;
    }

    private static boolean isPart(int part) {
        return part == 0 || part == 1;
    }

    private static boolean hasBit(int bits, int i) {
        return (bits >> i & 1) != 0;
    }

    private static long fractionPart(int upper, int lower, int part) {
        if (upper <= 0 || lower <= 0) {
            return part == 0 ? 0 : 1;
        }
        int divisor = greatestDivisor(upper, lower);
        int number = part == 0 ? upper : lower;
        return divisor > 1 ? number / divisor : number;
    }

    private static int greatestDivisor(int a, int b) {
        int greater = a;
        int lesser = b;
        // Euclid's steps on two ints are fewer than fifty.
        for (int step = 0; step < 64 && lesser != 0; step++) {
            int rest = greater % lesser;
            greater = lesser;
            lesser = rest;
        }
        return greater;
    }

    /** Each set's number becomes the sum of the numbers of all sets within it. */
    private static void addUpSubsets(int[] row) {
        for (int sign = 0; sign < SIGN_COUNT; sign++) {
            int bit = 1 << sign;
            for (int set = 0; set < SIGN_SETS && set < row.length; set++) {
                if ((set & bit) != 0) {
                    row[set] += row[set ^ bit];
                }
            }
        }
    }

    /** The signs said that are no WORD yet. */
    private static final class Pad {
        final int[] signs;
        int size;

        Pad() {
            signs = new int[PAD_SIZE];
        }

        int findFault() {
            int letters = 0;
            int digits = 0;
            boolean behindEqual = false;
            for (int i = 0; i < size; i++) {
                int sign = signs[i];
                if (behindEqual) {
                    if (sign < '0' || sign > '9' || digits == letters) {
                        return i;
                    }
                    digits++;
                } else if (sign == '=' && letters > 0) {
                    behindEqual = true;
                } else {
                    if (sign < 'a' || sign > 'j' || letters == LONGEST) {
                        return i;
                    }
                    letters++;
                }
            }
            return behindEqual && digits == letters ? NONE : size;
        }

        /** How many letters stand on a PAD without a FAULT: as many digits, and the = between. */
        int letterCount() {
            return size / 2;
        }

        int letterAt(int place) {
            return signs[place] - 'a';
        }

        int digitAt(int place) {
            return signs[letterCount() + 1 + place] - '0';
        }
    }

    /** THE BOOK: what is told of its WORDS, and nothing that follows from it. */
    private static final class Book {
        final int[] length;
        final int[] times;
        final int[] signBits;
        final int[] signs;
        final int[] sounds;
        int size;

        Book() {
            length = new int[MOST_WORDS];
            times = new int[MOST_WORDS];
            signBits = new int[MOST_WORDS];
            signs = new int[MOST_WORDS * LONGEST];
            sounds = new int[MOST_WORDS * LONGEST];
        }

        void copyFrom(Book from) {
            System.arraycopy(from.length, 0, length, 0, MOST_WORDS);
            System.arraycopy(from.times, 0, times, 0, MOST_WORDS);
            System.arraycopy(from.signBits, 0, signBits, 0, MOST_WORDS);
            System.arraycopy(from.signs, 0, signs, 0, MOST_WORDS * LONGEST);
            System.arraycopy(from.sounds, 0, sounds, 0, MOST_WORDS * LONGEST);
            size = from.size;
        }

        boolean holds(int word) {
            return word >= 0 && word < size;
        }

        int allWords() {
            return (1 << size) - 1;
        }

        boolean isWordSet(int bits) {
            return bits >= 0 && bits <= allWords();
        }

        int signAt(int word, int place) {
            return signs[word * LONGEST + place];
        }

        int soundAt(int word, int place) {
            return sounds[word * LONGEST + place];
        }

        int signOrNone(int word, int place) {
            return place < length[word] ? signAt(word, place) : NONE;
        }

        int soundOrNone(int word, int place) {
            return place < length[word] ? soundAt(word, place) : NONE;
        }

        int firstSign(int word) {
            return signAt(word, 0);
        }

        int lastSign(int word) {
            int places = length[word];
            return places > 0 ? signAt(word, places - 1) : NONE;
        }

        int timesOf(int words) {
            int sum = 0;
            for (int word = 0; word < size; word++) {
                if (hasBit(words, word)) {
                    sum += times[word];
                }
            }
            return sum;
        }

        boolean hasLettersOf(Pad pad) {
            for (int word = 0; word < size; word++) {
                if (hasLetters(word, pad)) {
                    return true;
                }
            }
            return false;
        }

        private boolean hasLetters(int word, Pad pad) {
            if (length[word] != pad.letterCount()) {
                return false;
            }
            for (int place = 0; place < length[word]; place++) {
                if (signAt(word, place) != pad.letterAt(place)) {
                    return false;
                }
            }
            return true;
        }

        void add(Pad pad, int often) {
            int word = size;
            int letters = pad.letterCount();
            if (word >= MOST_WORDS || letters > LONGEST) {
                return;
            }
            length[word] = letters;
            times[word] = often;
            signBits[word] = 0;
            for (int place = 0; place < letters; place++) {
                signs[word * LONGEST + place] = pad.letterAt(place);
                sounds[word * LONGEST + place] = pad.digitAt(place);
                signBits[word] |= 1 << pad.letterAt(place);
            }
            size++;
        }
    }

    /** What the four CHILDREN know and mix up. */
    private static final class Children {
        final int[] known;
        final int[] wholes;
        final int[] mixedLess;
        final int[] mixedMore;

        Children() {
            known = new int[CHILD_COUNT];
            wholes = new int[CHILD_COUNT];
            mixedLess = new int[CHILD_COUNT];
            mixedMore = new int[CHILD_COUNT];
            Arrays.fill(mixedLess, -1);
            Arrays.fill(mixedMore, -1);
        }

        void copyFrom(Children from) {
            System.arraycopy(from.known, 0, known, 0, CHILD_COUNT);
            System.arraycopy(from.wholes, 0, wholes, 0, CHILD_COUNT);
            System.arraycopy(from.mixedLess, 0, mixedLess, 0, CHILD_COUNT);
            System.arraycopy(from.mixedMore, 0, mixedMore, 0, CHILD_COUNT);
        }

        int mixedUp(int child) {
            return mixedLess[child] < 0 ? NONE : 10 * mixedLess[child] + mixedMore[child];
        }

        int takenFor(int child, int sign) {
            if (sign == mixedLess[child]) {
                return mixedMore[child];
            }
            return sign == mixedMore[child] ? mixedLess[child] : sign;
        }
    }

    /** ANSWERS: WORDS that were read, and how. */
    private static final class Answers {
        final int[] words;
        final boolean[] rights;
        int size;

        Answers() {
            words = new int[MOST_ANSWERS];
            rights = new boolean[MOST_ANSWERS];
        }

        void copyFrom(Answers from) {
            for (int i = 0; i < MOST_ANSWERS; i++) {
                words[i] = from.words[i];
                rights[i] = from.rights[i];
            }
            size = from.size;
        }

        void add(int word, boolean right) {
            if (size < MOST_ANSWERS) {
                words[size] = word;
                rights[size] = right;
                size++;
            }
        }
    }

    /** All that an IMAGE keeps. */
    private static final class Room {
        final Book book;
        final Children children;
        final Answers answers;

        Room() {
            book = new Book();
            children = new Children();
            answers = new Answers();
        }

        void copyFrom(Room from) {
            book.copyFrom(from.book);
            children.copyFrom(from.children);
            answers.copyFrom(from.answers);
        }
    }

    /** What follows from THE BOOK alone: reckoned once whenever THE BOOK changes. */
    private static final class Rule {
        final Book book;
        /** By SIGN and SOUND: places, as often as their WORDS. */
        final int[] heard;
        final int[] places;
        final int[] commonSound;
        /** By SOUND: the SIGN of the NEW SPELLING. */
        final int[] newSigns;
        /** WORDS, the most OFTEN ones first, of like ones the least. */
        final int[] byTimes;
        /** By SIGN: the most OFTEN WORD that begins with it. */
        final int[] guesses;
        int regular;

        Rule(Book book) {
            this.book = book;
            heard = new int[SIGN_COUNT * SIGN_COUNT];
            places = new int[SIGN_COUNT];
            commonSound = new int[SIGN_COUNT];
            newSigns = new int[SIGN_COUNT];
            byTimes = new int[MOST_WORDS];
            guesses = new int[SIGN_COUNT];
        }

        void refresh() {
            countPlaces();
            for (int i = 0; i < SIGN_COUNT; i++) {
                commonSound[i] = greatestAt(i * SIGN_COUNT, 1);
                newSigns[i] = greatestAt(i, SIGN_COUNT);
            }
            findRegular();
            sortByTimes();
            findGuesses();
        }

        private void countPlaces() {
            Arrays.fill(heard, 0);
            Arrays.fill(places, 0);
            for (int word = 0; word < book.size; word++) {
                for (int place = 0; place < book.length[word]; place++) {
                    int sign = book.signAt(word, place);
                    heard[sign * SIGN_COUNT + book.soundAt(word, place)] += book.times[word];
                    places[sign] += book.times[word];
                }
            }
        }

        /** Of ten numbers of the table, from one on by steps: which is greatest, the least such. */
        private int greatestAt(int from, int step) {
            int best = 0;
            int found = NONE;
            for (int i = 0; i < SIGN_COUNT; i++) {
                int number = heard[from + i * step];
                if (number > best) {
                    best = number;
                    found = i;
                }
            }
            return found;
        }

        private void findRegular() {
            regular = 0;
            for (int word = 0; word < book.size; word++) {
                if (goesByRule(word)) {
                    regular |= 1 << word;
                }
            }
        }

        private boolean goesByRule(int word) {
            for (int place = 0; place < book.length[word]; place++) {
                if (commonSound[book.signAt(word, place)] != book.soundAt(word, place)) {
                    return false;
                }
            }
            return true;
        }

        private void sortByTimes() {
            for (int word = 0; word < book.size; word++) {
                int at = word;
                for (; at > 0 && book.times[byTimes[at - 1]] < book.times[word]; at--) {
                    byTimes[at] = byTimes[at - 1];
                }
                byTimes[at] = word;
            }
        }

        private void findGuesses() {
            Arrays.fill(guesses, NONE);
            for (int i = 0; i < book.size; i++) {
                int first = book.firstSign(byTimes[i]);
                if (guesses[first] == NONE) {
                    guesses[first] = byTimes[i];
                }
            }
        }

        boolean isRegular(int word) {
            return hasBit(regular, word);
        }

        int placesByRule() {
            int sum = 0;
            for (int sign = 0; sign < SIGN_COUNT; sign++) {
                if (commonSound[sign] != NONE) {
                    sum += heard[sign * SIGN_COUNT + commonSound[sign]];
                }
            }
            return sum;
        }

        int placesInAll() {
            int sum = 0;
            for (int sign = 0; sign < SIGN_COUNT; sign++) {
                sum += places[sign];
            }
            return sum;
        }

        boolean isGiven(int word, int signs) {
            return isRegular(word) && (book.signBits[word] & ~signs) == 0;
        }

        int givenBy(int signs) {
            int words = 0;
            for (int word = 0; word < book.size; word++) {
                if (isGiven(word, signs)) {
                    words |= 1 << word;
                }
            }
            return words;
        }

        int newSign(int word, int place) {
            return newSigns[book.soundAt(word, place)];
        }

        int changedPlaces() {
            int sum = 0;
            for (int word = 0; word < book.size; word++) {
                for (int place = 0; place < book.length[word]; place++) {
                    if (newSign(word, place) != book.signAt(word, place)) {
                        sum += book.times[word];
                    }
                }
            }
            return sum;
        }

        int firstClash() {
            for (int word = 0; word < book.size; word++) {
                for (int other = word + 1; other < book.size; other++) {
                    if (areRespeltAlike(word, other)) {
                        return 100 * word + other;
                    }
                }
            }
            return NONE;
        }

        private boolean areRespeltAlike(int word, int other) {
            if (book.length[word] != book.length[other]) {
                return false;
            }
            for (int place = 0; place < book.length[word]; place++) {
                if (newSign(word, place) != newSign(other, place)) {
                    return false;
                }
            }
            return true;
        }
    }

    /** How a CHILD reads. */
    private static final class Reader {
        final Book book;
        final Rule rule;
        final Children children;
        final int[] soundRow;

        Reader(Book book, Rule rule, Children children) {
            this.book = book;
            this.rule = rule;
            this.children = children;
            soundRow = new int[LONGEST];
        }

        int wayOf(int child, int word) {
            int known = children.known[child];
            if (hasBit(children.wholes[child], word)) {
                return READ_WHOLE;
            }
            if ((book.signBits[word] & ~known) == 0) {
                return READ_SOUNDED;
            }
            return hasBit(known, book.firstSign(word)) ? READ_GUESSED : READ_NOT;
        }

        int readAs(int child, int word) {
            switch (wayOf(child, word)) {
                case READ_WHOLE:
                    return word;
                case READ_SOUNDED:
                    return soundedAs(child, word);
                case READ_GUESSED:
                    return guessedAs(word);
                default:
                    return NONE;
            }
        }

        int guessedAs(int word) {
            return rule.guesses[book.firstSign(word)];
        }

        int soundedAs(int child, int word) {
            int places = book.length[word];
            for (int place = 0; place < places; place++) {
                int sign = children.takenFor(child, book.signAt(word, place));
                soundRow[place] = rule.commonSound[sign];
                if (soundRow[place] == NONE) {
                    return NONE;
                }
            }
            if (hasSoundRow(word, places)) {
                return word;
            }
            for (int other = 0; other < book.size; other++) {
                if (hasSoundRow(other, places)) {
                    return other;
                }
            }
            return NONE;
        }

        private boolean hasSoundRow(int word, int places) {
            if (book.length[word] != places) {
                return false;
            }
            for (int place = 0; place < places; place++) {
                if (book.soundAt(word, place) != soundRow[place]) {
                    return false;
                }
            }
            return true;
        }

        int readable(int child) {
            int words = 0;
            for (int word = 0; word < book.size; word++) {
                if (readAs(child, word) == word) {
                    words |= 1 << word;
                }
            }
            return words;
        }

        /** A WORD that becomes WHOLE changes how no other one is read: so the bits of those that can be read are enough. */
        int readableAtLast(int before, int line) {
            int all = book.timesOf(book.allWords());
            int words = before;
            for (int i = 0; i < book.size; i++) {
                int next = rule.byTimes[i];
                if (hasBit(words, next)) {
                    continue;
                }
                if (book.timesOf(words) * THOUSAND < line * all) {
                    break;
                }
                words |= 1 << next;
            }
            return words;
        }

        /** A SHARE only grows by ROUNDS: so a LINE that lets the first one be lets all be. */
        int highestLine(int words) {
            int all = book.timesOf(book.allWords());
            if (words == book.allWords() || all <= 0) {
                return THOUSAND;
            }
            return book.timesOf(words) * THOUSAND / all;
        }
    }

    /** ORDER, and MOST by so many SIGNS and WHOLES. */
    private static final class SignPlan {
        final Book book;
        final Rule rule;
        /** By SIGNS as bits: what they give. */
        final int[] worth;
        /** By SIGNS as bits: the greatest sum that the longer beginnings of an ORDER can give behind them. */
        final int[] ahead;
        final int[] orderRow;
        int orderSum;
        boolean orderFound;

        SignPlan(Book book, Rule rule) {
            this.book = book;
            this.rule = rule;
            worth = new int[SIGN_SETS];
            ahead = new int[SIGN_SETS];
            orderRow = new int[SIGN_COUNT];
        }

        void findOrder() {
            if (orderFound) {
                return;
            }
            weighSets();
            ahead[SIGN_SETS - 1] = 0;
            for (int set = SIGN_SETS - 2; set >= 0; set--) {
                ahead[set] = bestAhead(set);
            }
            orderSum = ahead[0];
            pickOrder();
            orderFound = true;
        }

        private int bestAhead(int set) {
            int best = 0;
            for (int sign = 0; sign < SIGN_COUNT; sign++) {
                int more = set | 1 << sign;
                if (more != set) {
                    best = Math.max(best, worth[more] + ahead[more]);
                }
            }
            return best;
        }

        private void weighSets() {
            Arrays.fill(worth, 0);
            for (int word = 0; word < book.size; word++) {
                if (rule.isRegular(word)) {
                    worth[book.signBits[word]] += book.times[word];
                }
            }
            addUpSubsets(worth);
        }

        private void pickOrder() {
            int set = 0;
            for (int i = 0; i < SIGN_COUNT; i++) {
                int sign = nextSign(set);
                orderRow[i] = sign;
                set |= 1 << sign;
            }
        }

        private int nextSign(int set) {
            for (int sign = 0; sign < SIGN_COUNT; sign++) {
                int more = set | 1 << sign;
                if (more != set && worth[more] + ahead[more] == ahead[set]) {
                    return sign;
                }
            }
            return 0;
        }

        int bestSigns(int k, int w) {
            int best = -1;
            int found = 0;
            for (int set = 0; set < SIGN_SETS; set++) {
                if (Integer.bitCount(set) == k) {
                    int sum = worthWith(set, w);
                    if (sum > best) {
                        best = sum;
                        found = set;
                    }
                }
            }
            return found;
        }

        private int worthWith(int signs, int w) {
            int sum = 0;
            int left = w;
            for (int i = 0; i < book.size; i++) {
                int word = rule.byTimes[i];
                if (rule.isGiven(word, signs)) {
                    sum += book.times[word];
                } else if (left > 0) {
                    sum += book.times[word];
                    left--;
                }
            }
            return sum;
        }

        int bestWholes(int signs, int w) {
            int wholes = 0;
            int left = w;
            for (int i = 0; i < book.size && left > 0; i++) {
                int word = rule.byTimes[i];
                if (!rule.isGiven(word, signs)) {
                    wholes |= 1 << word;
                    left--;
                }
            }
            return wholes;
        }
    }

    /** TALE: the longest row of WORDS, found for every set of WORDS out of the lesser sets. */
    private static final class TaleFinder {
        final Book book;
        /** By WORDS as bits: with which of them a row of just these can begin. */
        final int[] starts;
        /** By WORD: those that can stand behind it. */
        final int[] behind;
        final int[] row;
        int size;
        int ofChild;

        TaleFinder(Book book) {
            this.book = book;
            starts = new int[WORD_SETS];
            behind = new int[MOST_WORDS];
            row = new int[MOST_WORDS];
            ofChild = NONE;
        }

        void find(int readable) {
            findBehind();
            size = 0;
            int set = 0;
            for (int i = 1; i < WORD_SETS && set != readable; i++) {
                set = nextWithin(set, readable);
                starts[set] = startsOf(set);
                if (starts[set] != 0) {
                    size = Math.max(size, Integer.bitCount(set));
                }
            }
            pickRow(readable);
        }

        /** Of the sets within a greater one the next by number. */
        private static int nextWithin(int set, int all) {
            return set - all & all;
        }

        private void findBehind() {
            for (int word = 0; word < book.size; word++) {
                behind[word] = 0;
                for (int other = 0; other < book.size; other++) {
                    if (book.firstSign(other) == book.lastSign(word)) {
                        behind[word] |= 1 << other;
                    }
                }
            }
        }

        private int startsOf(int set) {
            int words = 0;
            for (int word = 0; word < book.size; word++) {
                int bit = 1 << word;
                if ((set & bit) != 0) {
                    int rest = set ^ bit;
                    if (rest == 0 || (starts[rest] & behind[word]) != 0) {
                        words |= bit;
                    }
                }
            }
            return words;
        }

        private void pickRow(int readable) {
            int free = readable;
            int fitting = readable;
            for (int i = 0; i < size; i++) {
                int word = leastStart(free, size - i, fitting);
                row[i] = word;
                free &= ~(1 << word);
                fitting = behind[word];
            }
        }

        /** The least of the fitting WORDS with which a row of so many free ones can begin. */
        private int leastStart(int free, int words, int fitting) {
            int found = 0;
            int set = 0;
            for (int i = 1; i < WORD_SETS && set != free; i++) {
                set = nextWithin(set, free);
                if (Integer.bitCount(set) == words) {
                    found |= starts[set] & fitting;
                }
            }
            for (int word = 0; word < MOST_WORDS; word++) {
                if (hasBit(found, word)) {
                    return word;
                }
            }
            return 0;
        }
    }

    /** Who lacks what: the sets of SIGNS that ANSWERS leave, and what to ask. */
    private static final class Doubt {
        final Book book;
        final Rule rule;
        final Answers answers;
        /** The SIGNS of each WORD that was read wrong though it is REGULAR: one of them is lacking. */
        final int[] missed;
        int missedCount;
        /** SIGNS of WORDS that were read right: none of them is lacking. */
        int proved;
        boolean impossible;
        /** By WORD: how many of the sets that may be have none of its SIGNS. */
        final int[] knownCounts;
        /** By SIGN: the REGULAR WORDS in which it stands. */
        final int[] wordsWith;

        Doubt(Book book, Rule rule, Answers answers) {
            this.book = book;
            this.rule = rule;
            this.answers = answers;
            missed = new int[MOST_ANSWERS];
            knownCounts = new int[MOST_WORDS];
            wordsWith = new int[SIGN_COUNT];
        }

        /** Sums the ANSWERS up, so that they are not gone through for each of the 1,024 sets. */
        void hear() {
            missedCount = 0;
            proved = 0;
            impossible = false;
            for (int i = 0; i < answers.size; i++) {
                int word = answers.words[i];
                boolean regular = rule.isRegular(word);
                if (answers.rights[i]) {
                    proved |= book.signBits[word];
                    impossible |= !regular;
                } else if (regular) {
                    missed[missedCount] = book.signBits[word];
                    missedCount++;
                }
            }
        }

        private boolean fits(int lacking) {
            if (impossible || (lacking & proved) != 0) {
                return false;
            }
            for (int i = 0; i < missedCount; i++) {
                if ((lacking & missed[i]) == 0) {
                    return false;
                }
            }
            return true;
        }

        /** How many sets of those that may be have all these SIGNS. */
        int countSets(int signs) {
            int count = 0;
            for (int set = 0; set < SIGN_SETS; set++) {
                if ((signs & ~set) == 0 && fits(set)) {
                    count++;
                }
            }
            return count;
        }

        int bestQuestion() {
            Arrays.fill(knownCounts, 0);
            int sets = 0;
            for (int set = 0; set < SIGN_SETS; set++) {
                if (fits(set)) {
                    sets++;
                    countKnown(set);
                }
            }
            int best = -1;
            int found = NONE;
            for (int word = 0; word < book.size; word++) {
                int right = rule.isRegular(word) ? knownCounts[word] : 0;
                int lesser = Math.min(right, sets - right);
                if (lesser > best) {
                    best = lesser;
                    found = word;
                }
            }
            return found;
        }

        private void countKnown(int lacking) {
            for (int word = 0; word < book.size; word++) {
                if ((book.signBits[word] & lacking) == 0) {
                    knownCounts[word]++;
                }
            }
        }

        int leastTest() {
            findWordsWith();
            int best = rule.regular;
            int fewest = Integer.bitCount(best);
            for (int set = 0; set < rule.regular; set++) {
                int words = Integer.bitCount(set);
                if (words < fewest && (set & ~rule.regular) == 0 && tellsAll(set)) {
                    best = set;
                    fewest = words;
                }
            }
            return best;
        }

        private void findWordsWith() {
            Arrays.fill(wordsWith, 0);
            for (int word = 0; word < book.size; word++) {
                if (!rule.isRegular(word)) {
                    continue;
                }
                for (int place = 0; place < book.length[word]; place++) {
                    wordsWith[book.signAt(word, place)] |= 1 << word;
                }
            }
        }

        /** Whether these WORDS tell each SIGN from none, and any two apart that all REGULAR WORDS do. */
        private boolean tellsAll(int words) {
            for (int sign = 0; sign < SIGN_COUNT; sign++) {
                int with = wordsWith[sign];
                if (with != 0 && (with & words) == 0) {
                    return false;
                }
                for (int other = 0; other < sign; other++) {
                    int differ = with ^ wordsWith[other];
                    if (differ != 0 && (differ & words) == 0) {
                        return false;
                    }
                }
            }
            return true;
        }
    }

    /** LESSONS of a CHILD, and how they are SHARED among the four. */
    private static final class LessonPlan {
        final Book book;
        final Children children;
        final Reader reader;
        /** By SIGNS as bits: the SHARE of a CHILD that knows them. */
        final int[] shares;
        /** By CHILD and number of LESSONS. */
        final int[] best;
        final boolean[] found;
        final int[] splitRow;
        int splitSum;

        LessonPlan(Book book, Children children, Reader reader) {
            this.book = book;
            this.children = children;
            this.reader = reader;
            shares = new int[SIGN_SETS];
            best = new int[CHILD_COUNT * (MOST_LESSONS + 1)];
            found = new boolean[CHILD_COUNT];
            splitRow = new int[CHILD_COUNT];
        }

        void forget(int child) {
            found[child] = false;
        }

        int bestShare(int child, int n) {
            return best[child * (MOST_LESSONS + 1) + n];
        }

        void findBest(int child) {
            if (found[child]) {
                return;
            }
            findShares(child);
            int known = children.known[child];
            int knownCount = Integer.bitCount(known);
            int from = child * (MOST_LESSONS + 1);
            for (int n = 0; n <= MOST_LESSONS; n++) {
                best[from + n] = 0;
            }
            for (int set = 0; set < SIGN_SETS; set++) {
                if ((known & ~set) == 0) {
                    int at = from + Integer.bitCount(set) - knownCount;
                    best[at] = Math.max(best[at], shares[set]);
                }
            }
            for (int n = SIGN_COUNT - knownCount + 1; n <= MOST_LESSONS; n++) {
                best[from + n] = shares[SIGN_SETS - 1];
            }
            found[child] = true;
        }

        /** A WORD counts from its first SIGN on, if it is guessed right, and from all its SIGNS on, if it sounds right. */
        private void findShares(int child) {
            Arrays.fill(shares, 0);
            for (int word = 0; word < book.size; word++) {
                int times = book.times[word];
                if (hasBit(children.wholes[child], word)) {
                    shares[0] += times;
                    continue;
                }
                int guessed = reader.guessedAs(word) == word ? times : 0;
                int sounded = reader.soundedAs(child, word) == word ? times : 0;
                shares[1 << book.firstSign(word)] += guessed;
                shares[book.signBits[word]] += sounded - guessed;
            }
            addUpSubsets(shares);
        }

        void split(int n) {
            for (int child = 0; child < CHILD_COUNT; child++) {
                findBest(child);
            }
            splitSum = -1;
            for (int a = 0; a <= n; a++) {
                for (int b = 0; a + b <= n; b++) {
                    for (int c = 0; a + b + c <= n; c++) {
                        trySplit(a, b, c, n - a - b - c);
                    }
                }
            }
        }

        private void trySplit(int a, int b, int c, int d) {
            int sum = bestShare(0, a) + bestShare(1, b) + bestShare(2, c) + bestShare(3, d);
            if (sum > splitSum) {
                splitSum = sum;
                splitRow[0] = a;
                splitRow[1] = b;
                splitRow[2] = c;
                splitRow[3] = d;
            }
        }
    }
}
