import java.util.Arrays;

/**
 * What holds in each case by the greater number of the learned.
 *
 * <p>Sets are held as bits throughout: marks, doctors and books in an int, words in an int, cases in a long. So the
 * words that say a thing of a case are one number, and a doctor's opinion is found without going through the words.
 * All rows are made with the object and used again: no call makes anything.
 */
public final class LearnedCount {
    public static final int BAD = -1, STATE = -2, FULL = -3, NONE = -4;

    private static final int NO = 0, YES = 1;
    private static final int MARKS = 6, CASES = 64, DOCTORS = 8, BOOKS = 8, WORDS = 24;
    private static final int ALL_BOOKS = 255;
    /** The game is played with books 0 to 5 alone. */
    private static final int GAME_BOOKS = 63;

    /** Kinds of words, numbered as word(w, 0) answers them. */
    private static final int WORD = 0, CITE = 1, AGAINST = 2, NOTE = 3, LIKE = 4, LAW = 5;
    /** The lines of a library by name: the kinds first, in their order. */
    private static final String LIBRARY_LINES = "word cite against note like law in copies";
    private static final int IN_LINE = 6;

    private static final String RULE_LINES = "main copies notes two head silent laws";
    private static final int MAIN_LINE = 0, COPIES_LINE = 1, NOTES_LINE = 2, TWO_LINE = 3, HEAD_LINE = 4,
            SILENT_LINE = 5;

    private static final int TWO_NONE = 0, TWO_LATER = 1, TWO_SPECIAL = 2;
    private static final int LAWS_NONE = 0, LAWS_LATER = 1, LAWS_FIRST = 2;
    private static final int BY_NOTHING = 0, BY_LAW = 1, BY_MOST = 2, BY_HEAD = 3, BY_SILENCE = 4;

    /** The bit of a word that is found: its number stands behind those of all others. */
    private static final int FOUND = 1 << WORDS;

    private static final int TAPE_BYTES = 400;
    private static final int MOST_COPIES = 9, LAST_DAY = 999;

    /** Kinds of tokens. */
    private static final int NO_TOKEN = 0, END = 1, NAME = 2, NUMBER = 3, DASH = 4, STOP = 5;
    private static final int MOST_FIGURES = 3;

    /** Faults of a text. */
    private static final int NOT_A_TOKEN = 1, MISPLACED = 2, OUT_OF_BOUNDS = 3, TOLD_TWICE = 4, TOO_MANY = 5,
            FOLLOWS_WRONGLY = 6;
    /** What a reader answers of a text, or of a part of one, that has a fault. */
    private static final int FAILED = -1;
    /** A fault or a place is told below this number. */
    private static final int FAULT_BASE = -10, NO_CASE_BASE = -20;

    private static final int SHEETS = 4, CELLS = 40;
    private static final int BYTES_LANE = 0, SHORTS_LANE = 1, INTS_LANE = 2;
    /** Faults that the machine would find. */
    private static final int NULL_FAULT = 1, INDEX_FAULT = 2, CAST_FAULT = 3, SIZE_FAULT = 4;

    private final Tape tape;
    private final Tokens tokens;
    private final LibraryReader libraryReader;
    private final RuleReader ruleReader;
    private Library theLibrary;
    private Library spareLibrary;
    private Rule theRule;
    private Rule otherRule;
    private Rule spareRule;
    private int brought;
    private int latestFault;
    private final Weighing weighing;
    private final Finding finding;
    private final Sheet[] sheets;

    public LearnedCount() {
        tape = new Tape();
        tokens = new Tokens(tape);
        libraryReader = new LibraryReader(tokens);
        ruleReader = new RuleReader(tokens);
        theLibrary = new Library();
        spareLibrary = new Library();
        theRule = new Rule();
        otherRule = new Rule();
        spareRule = new Rule();
        brought = ALL_BOOKS;
        weighing = new Weighing(theLibrary, theRule);
        finding = new Finding(weighing);
        sheets = new Sheet[SHEETS];
        for (int k = 0; k < SHEETS; k++) {
            sheets[k] = new Sheet();
        }
    }

    // ---- texts

    public int feed(long v) {
        return tape.append(v) ? tape.length : FULL;
    }

    public int end(int n) {
        if (n < 0 || n > tape.length) {
            return BAD;
        }
        int had = tape.length;
        tape.length = n;
        return had;
    }

    public int library() {
        int lines = libraryReader.readInto(spareLibrary);
        if (lines >= 0) {
            spareLibrary.settle();
            Library old = theLibrary;
            theLibrary = spareLibrary;
            spareLibrary = old;
            brought = ALL_BOOKS;
        }
        return afterText(lines);
    }

    public int rule() {
        int lines = ruleReader.readInto(spareRule);
        if (lines >= 0) {
            Rule old = theRule;
            theRule = spareRule;
            spareRule = old;
        }
        return afterText(lines);
    }

    private int afterText(int lines) {
        tape.length = 0;
        latestFault = tokens.fault;
        return lines >= 0 ? lines : FAULT_BASE - tokens.place;
    }

    public int fault() {
        return latestFault;
    }

    public int weighs(int what) {
        switch (what) {
            case 0: return theRule.main;
            case 1: return theRule.fewestCopies;
            case 2: return theRule.notes ? 1 : 0;
            case 3: return theRule.two;
            case 4: return theRule.head;
            case 5: return theRule.silent;
            case 6: return theRule.laws;
            default: return BAD;
        }
    }

    // ---- words

    public int word(int w, int what) {
        if (!isWord(w)) {
            return BAD;
        }
        Word it = theLibrary.all[w];
        switch (what) {
            case 0: return it.kind;
            case 1: return it.doctor;
            case 2: return it.book;
            case 3: return it.with;
            case 4: return it.without;
            case 5: return it.answer;
            case 6: return it.follows;
            case 7: return it.day;
            case 8: return it.weight;
            default: return BAD;
        }
    }

    public int says(int w, int c) {
        if (!isWord(w) || !isCase(c)) {
            return BAD;
        }
        return theLibrary.saying(w, c);
    }

    public int words(int what) {
        switch (what) {
            case 0: return theLibrary.inRing;
            case 1: return theLibrary.unsound;
            case 2: return theLibrary.counting(theRule, brought);
            default: return BAD;
        }
    }

    public int meets(int c, int what) {
        if (!isCase(c)) {
            return BAD;
        }
        switch (what) {
            case 0: return theLibrary.speaking(c);
            case 1: return theLibrary.yesIn[c];
            case 2: return theLibrary.speaking(c) & theLibrary.counting(theRule, brought);
            default: return BAD;
        }
    }

    public int steps(int w) {
        return isWord(w) ? theLibrary.all[w].stepsToEnd : BAD;
    }

    // ---- doctors

    public int each(int d, int c) {
        if (!isDoctor(d) || !isCase(c)) {
            return BAD;
        }
        weighNow();
        return weighing.opinion(d, c);
    }

    public int clash(int d, int what) {
        if (!isDoctor(d) || !isEither(what)) {
            return BAD;
        }
        weighNow();
        long clashing = 0L;
        for (int c = 0; c < CASES; c++) {
            if (weighing.clashes(d, c)) {
                clashing |= 1L << c;
            }
        }
        return manyOrLeast(clashing, what);
    }

    public int sides(int d, int e, int what) {
        if (!isDoctor(d) || !isDoctor(e) || d == e || what < 0 || what > 2) {
            return BAD;
        }
        weighNow();
        long same = 0L;
        long unlike = 0L;
        for (int c = 0; c < CASES; c++) {
            int one = weighing.opinion(d, c);
            int another = weighing.opinion(e, c);
            if (one != NONE && another != NONE) {
                same |= one == another ? 1L << c : 0L;
                unlike |= one != another ? 1L << c : 0L;
            }
        }
        switch (what) {
            case 0: return Long.bitCount(same | unlike);
            case 1: return Long.bitCount(same);
            default: return least(unlike);
        }
    }

    public int hangs(int d, int what) {
        if (!isDoctor(d) || !isEither(what)) {
            return BAD;
        }
        weighNow();
        long hanging = 0L;
        for (int c = 0; c < CASES; c++) {
            weighing.weigh(c);
            if (weighing.heldIf(d, NONE) != weighing.held) {
                hanging |= 1L << c;
            }
        }
        return manyOrLeast(hanging, what);
    }

    // ---- what holds

    public int held(int c, int what) {
        if (!isCase(c)) {
            return BAD;
        }
        weighNow();
        weighing.weigh(c);
        switch (what) {
            case 0: return weighing.held;
            case 1: return weighing.by;
            case 2: return weighing.yes;
            case 3: return weighing.no;
            default: return BAD;
        }
    }

    public long cases(int what) {
        return isKindOfCases(what) ? casesNow(what) : 0L;
    }

    public int many(int what) {
        return isKindOfCases(what) ? Long.bitCount(casesNow(what)) : BAD;
    }

    public int reckon(int c, int by, int yes, int no, int answer) {
        if (!isCase(c)) {
            return BAD;
        }
        weighNow();
        weighing.weigh(c);
        if (by != weighing.by) {
            return 1;
        }
        if (yes != weighing.yes) {
            return 2;
        }
        if (no != weighing.no) {
            return 3;
        }
        return answer != weighing.held ? 4 : 0;
    }

    public int widest(int what) {
        if (!isEither(what)) {
            return BAD;
        }
        weighNow();
        int widestCase = NONE;
        int greatestLesser = 0;
        int mostSaying = 0;
        for (int c = 0; c < CASES; c++) {
            weighing.weigh(c);
            int lesser = Math.min(weighing.yes, weighing.no);
            int saying = weighing.yes + weighing.no;
            if (lesser > greatestLesser || lesser == greatestLesser && saying > mostSaying) {
                widestCase = c;
                greatestLesser = lesser;
                mostSaying = saying;
            }
        }
        return widestCase == NONE || what == 0 ? widestCase : greatestLesser;
    }

    public int near(int c, int answer, int what) {
        if (!isCase(c) || !isEither(answer) || !isEither(what)) {
            return BAD;
        }
        weighNow();
        int nearest = NONE;
        int fewestMarks = MARKS + 1;
        for (int other = 0; other < CASES; other++) {
            int marks = Integer.bitCount(c ^ other);
            if (marks < fewestMarks && weighing.heldIn(other) == answer) {
                nearest = other;
                fewestMarks = marks;
            }
        }
        return nearest == NONE || what == 0 ? nearest : fewestMarks;
    }

    // ---- books

    public int bring(int books) {
        if (books < 0 || books > ALL_BOOKS) {
            return BAD;
        }
        int were = brought;
        brought = books;
        return were;
    }

    public int copies(int book, int n) {
        if (book < 0 || book >= BOOKS || n < 0 || n > MOST_COPIES) {
            return BAD;
        }
        int were = theLibrary.copiesOf[book];
        theLibrary.copiesOf[book] = n;
        return were;
    }

    public int argue(int c, int answer, int what) {
        if (!isCase(c) || !isEither(answer) || !isEither(what)) {
            return BAD;
        }
        int fewest = fewestBooks(c, answer);
        if (fewest < 0) {
            return NONE;
        }
        return what == 0 ? Integer.bitCount(fewest) : fewest;
    }

    /** Sets come in the order of their bits, so of several that are as small the first stays. */
    private int fewestBooks(int c, int answer) {
        int telling = theLibrary.tellingBooks(theRule);
        int fewest = -1;
        int number = BOOKS + 1;
        for (int set = 0; set <= ALL_BOOKS; set++) {
            if ((set & ~telling) == 0 && Integer.bitCount(set) < number) {
                weighing.begin(theLibrary, theRule, set);
                if (weighing.heldIn(c) == answer) {
                    fewest = set;
                    number = Integer.bitCount(set);
                }
            }
        }
        return fewest;
    }

    /**
     * Whoever never passes brings the game to the end at which all six books are there, whatever the other one does.
     * Both can do so at every turn, so neither gets anything better than what is held then, and every book is as good
     * a first turn as any: the least is book 0. The tests play it out.
     */
    public int game(int c, int begins, int what) {
        if (!isCase(c) || !isEither(begins) || !isEither(what)) {
            return BAD;
        }
        weighing.begin(theLibrary, theRule, GAME_BOOKS);
        return what == 0 ? weighing.heldIn(c) : 0;
    }

    public int turn(int what) {
        if (what < 0 || what > 3) {
            return BAD;
        }
        weighNow();
        int best = finding.best();
        if (best < 0) {
            return NONE;
        }
        switch (what) {
            case 0: return finding.turned[best];
            case 1: return Finding.doctorAt(best);
            case 2: return Finding.answerAt(best);
            default: return Finding.marksAt(best);
        }
    }

    public int turns(int d, int answer, int marks) {
        if (!isDoctor(d) || !isEither(answer) || !isCase(marks)) {
            return BAD;
        }
        if (!theRule.isMain(d)) {
            return STATE;
        }
        weighNow();
        int turning = 0;
        for (int c = 0; c < CASES; c++) {
            if ((marks & ~c) == 0) {
                weighing.weigh(c);
                turning += weighing.turnsBy(d, answer, Integer.bitCount(marks)) ? 1 : 0;
            }
        }
        return turning;
    }

    // ---- rules beside one another

    public int keep() {
        otherRule.becomeAs(theRule);
        return 1;
    }

    public int swap() {
        Rule rule = theRule;
        theRule = otherRule;
        otherRule = rule;
        return 1;
    }

    public int differ(int what) {
        if (!isEither(what)) {
            return BAD;
        }
        weighNow();
        long yes = weighing.casesOf(0);
        long no = weighing.casesOf(1);
        weighing.begin(theLibrary, otherRule, brought);
        long unlike = yes ^ weighing.casesOf(0) | no ^ weighing.casesOf(1);
        return manyOrLeast(unlike, what);
    }

    public int brief(int what) {
        if (!isEither(what)) {
            return BAD;
        }
        long yes = casesNow(0);
        long no = casesNow(1);
        int briefest = CASES - 1;
        for (int marks = 0; marks < CASES; marks++) {
            if (Integer.bitCount(marks) < Integer.bitCount(briefest) && tellsApart(marks, yes, no)) {
                briefest = marks;
            }
        }
        return what == 0 ? Integer.bitCount(briefest) : briefest;
    }

    private static boolean tellsApart(int marks, long yes, long no) {
        long yesByMarks = 0L;
        long noByMarks = 0L;
        for (int c = 0; c < CASES; c++) {
            long alike = 1L << (c & marks);
            yesByMarks |= (yes >>> c & 1L) == 1L ? alike : 0L;
            noByMarks |= (no >>> c & 1L) == 1L ? alike : 0L;
        }
        return (yesByMarks & noByMarks) == 0L;
    }

    // ---- sheets

    public int sheet(int k, int lane, int n) {
        if (!isSheet(k) || !isLane(lane) || n > CELLS) {
            return BAD;
        }
        if (n < 0) {
            return FAULT_BASE - SIZE_FAULT;
        }
        sheets[k].renew(lane, n);
        return 1;
    }

    public int lay(int k, int i, int v) {
        if (!isSheet(k)) {
            return BAD;
        }
        Sheet it = sheets[k];
        if (it.isNothing()) {
            return FAULT_BASE - NULL_FAULT;
        }
        if (!it.hasCell(i)) {
            return FAULT_BASE - INDEX_FAULT;
        }
        it.put(i, v);
        return 1;
    }

    public int read(int k, int lane, int f, int n, int what) {
        if (!isSheet(k) || !isLane(lane) || n < 0 || n > CELLS || what < 0 || what > 2) {
            return BAD;
        }
        Sheet it = sheets[k];
        if (it.isNothing()) {
            return FAULT_BASE - NULL_FAULT;
        }
        if (it.lane != lane) {
            return FAULT_BASE - CAST_FAULT;
        }
        return readCells(it, f, n, what == 0 ? YES : what == 1 ? NO : NONE);
    }

    private int readCells(Sheet it, int f, int n, int wanted) {
        weighNow();
        int found = 0;
        for (int i = 0; i < n; i++) {
            // The first cell is looked at by f alone, so the sum is never formed beyond an int's end.
            if (!it.hasCell(f) || !it.hasCell(f + i)) {
                return FAULT_BASE - INDEX_FAULT;
            }
            int c = it.cells[f + i];
            if (!isCase(c)) {
                return NO_CASE_BASE - i;
            }
            found += weighing.heldIn(c) == wanted ? 1 : 0;
        }
        return found;
    }

    public int count(int what) {
        switch (what) {
            case 0: return theLibrary.size;
            case 1: return Integer.bitCount(theLibrary.lawWords);
            case 2: return Integer.bitCount(brought);
            case 3: return tape.length;
            case 4: return sheets[0].isNothing() ? NONE : sheets[0].size;
            default: return what >= 10 && what < 10 + BOOKS ? theLibrary.copiesOf[what - 10] : BAD;
        }
    }

    // ---- what the calls share

    private boolean isWord(int w) {
        return w >= 0 && w < theLibrary.size;
    }

    /** Sets of marks have the same bounds. */
    private static boolean isCase(int c) {
        return c >= 0 && c < CASES;
    }

    private static boolean isDoctor(int d) {
        return d >= 0 && d < DOCTORS;
    }

    private static boolean isSheet(int k) {
        return k >= 0 && k < SHEETS;
    }

    private static boolean isLane(int lane) {
        return lane >= BYTES_LANE && lane <= INTS_LANE;
    }

    private static boolean isEither(int n) {
        return n == 0 || n == 1;
    }

    private static boolean isKindOfCases(int what) {
        return what >= 0 && what <= 2 || what >= 10 + BY_NOTHING && what <= 10 + BY_SILENCE;
    }

    private static int least(long cases) {
        return cases == 0L ? NONE : Long.numberOfTrailingZeros(cases);
    }

    private static int manyOrLeast(long cases, int what) {
        return what == 0 ? Long.bitCount(cases) : least(cases);
    }

    private void weighNow() {
        weighing.begin(theLibrary, theRule, brought);
    }

    private long casesNow(int what) {
        weighNow();
        return weighing.casesOf(what);
    }

    /** What is said alike by words that say yes and words that say no. */
    private static int agreed(int yesWords, int noWords) {
        if (noWords == 0) {
            return yesWords == 0 ? NONE : YES;
        }
        return yesWords == 0 ? NO : NONE;
    }

    private static boolean holds(int bits, int i) {
        return (bits >>> i & 1) == 1;
    }

    /** The bytes by which texts are told. */
    private static final class Tape {
        final byte[] bytes = new byte[TAPE_BYTES];
        int length;

        Tape() {
        }

        boolean append(long v) {
            if (length > TAPE_BYTES - 8) {
                return false;
            }
            for (int i = 0; i < 8; i++) {
                bytes[length + i] = (byte) (v >>> (56 - 8 * i));
            }
            length += 8;
            return true;
        }

        /** A byte, or -1 where there is none. */
        int byteAt(int place) {
            return place >= 0 && place < length ? bytes[place] & 255 : -1;
        }

        /** The first place from here on where no byte of these stands. */
        int behindAll(int least, int greatest, int from) {
            int i = from < 0 ? 0 : from;
            while (i < length && bytes[i] >= least && bytes[i] <= greatest) {
                i++;
            }
            return i;
        }

        /** The number whose figures stand there. */
        int figures(int from, int to) {
            int number = 0;
            for (int i = from < 0 ? 0 : from; i < to && i < length; i++) {
                number = number * 10 + bytes[i] - '0';
            }
            return number;
        }
    }

    /** Takes a tape's tokens one by one, each only when it is asked for; the first fault that is met stays. */
    private static final class Tokens {
        final Tape tape;
        int kind;
        int start;
        int behind;
        int number;
        int fault;
        int place;

        Tokens(Tape tape) {
            this.tape = tape;
        }

        void begin() {
            kind = NO_TOKEN;
            start = 0;
            behind = 0;
            fault = 0;
            place = 0;
        }

        int fail(int which) {
            if (fault == 0) {
                fault = which;
                place = start;
            }
            return FAILED;
        }

        int failAt(int which, int where) {
            start = where;
            return fail(which);
        }

        void advance() {
            start = tape.behindAll(' ', ' ', behind);
            behind = start + 1;
            int first = tape.byteAt(start);
            if (first < 0) {
                kind = END;
                behind = start;
            } else if (first >= 'a' && first <= 'z') {
                kind = NAME;
                behind = tape.behindAll('a', 'z', start);
            } else if (first >= '0' && first <= '9') {
                behind = tape.behindAll('0', '9', start);
                number = tape.figures(start, Math.min(behind, start + MOST_FIGURES));
                kind = behind - start > MOST_FIGURES ? NO_TOKEN : NUMBER;
            } else if (first == '-') {
                kind = DASH;
            } else {
                kind = first == ';' ? STOP : NO_TOKEN;
            }
            if (kind == NO_TOKEN) {
                fail(NOT_A_TOKEN);
            }
        }

        /** The place of the latest name among names with blanks between, or -1. */
        int among(String names) {
            int begin = 0;
            int index = 0;
            for (int i = 0; i <= names.length(); i++) {
                if (i == names.length() || names.charAt(i) == ' ') {
                    if (isNamed(names, begin, i)) {
                        return index;
                    }
                    begin = i + 1;
                    index++;
                }
            }
            return -1;
        }

        private boolean isNamed(String names, int from, int to) {
            if (to - from != behind - start) {
                return false;
            }
            for (int i = from; i < to && i < names.length(); i++) {
                if (names.charAt(i) != tape.byteAt(start + i - from)) {
                    return false;
                }
            }
            return true;
        }

        /** The letters of the latest name as bits from a first letter on, or -1: another letter, one twice. */
        private int letters(int first, int many) {
            int bits = 0;
            for (int i = start; i < behind; i++) {
                int letter = tape.byteAt(i) - first;
                if (letter < 0 || letter >= many || holds(bits, letter)) {
                    return -1;
                }
                bits |= 1 << letter;
            }
            return bits;
        }

        int takeNumber(int greatest) {
            advance();
            if (kind != NUMBER) {
                return fail(MISPLACED);
            }
            return number > greatest ? fail(OUT_OF_BOUNDS) : number;
        }

        int takeDoctors() {
            advance();
            if (kind != NAME) {
                return fail(MISPLACED);
            }
            int doctors = letters('a', DOCTORS);
            return doctors < 0 ? fail(OUT_OF_BOUNDS) : doctors;
        }

        int takeDoctor() {
            int doctors = takeDoctors();
            if (doctors < 0) {
                return FAILED;
            }
            return Integer.bitCount(doctors) == 1 ? Integer.numberOfTrailingZeros(doctors) : fail(OUT_OF_BOUNDS);
        }

        int takeMarks() {
            advance();
            if (kind == DASH) {
                return 0;
            }
            if (kind != NAME) {
                return fail(MISPLACED);
            }
            int marks = letters('p', MARKS);
            return marks < 0 ? fail(OUT_OF_BOUNDS) : marks;
        }

        int takeAnswer() {
            advance();
            if (kind != NAME) {
                return fail(MISPLACED);
            }
            int answer = among("no yes");
            return answer < 0 ? fail(OUT_OF_BOUNDS) : answer;
        }

        /** Which of some names: another one does not go there. */
        int takeOneOf(String names) {
            advance();
            int which = kind == NAME ? among(names) : -1;
            return which < 0 ? fail(MISPLACED) : which;
        }

        /** The end of a line that had no fault so far, and the first token behind it. */
        void closeLine() {
            if (fault != 0) {
                return;
            }
            advance();
            if (kind != STOP) {
                fail(MISPLACED);
                return;
            }
            advance();
        }
    }

    /** One word as it is told, and what follows from all words for it alone. */
    private static final class Word {
        int kind;
        int doctor;
        int book;
        int with;
        int without;
        int answer;
        int follows;
        /** Where the number of the word that it follows stands in the text. */
        int place;
        int day;
        int weight;
        int stepsToEnd;

        Word() {
        }

        void begin(int itsKind, int itsBook) {
            kind = itsKind;
            doctor = NONE;
            book = itsBook;
            with = 0;
            without = 0;
            answer = NONE;
            follows = NONE;
            place = 0;
            day = NONE;
            weight = 0;
            stepsToEnd = 0;
        }
    }

    /** The words, the copies of books, and what the words say: as bits of words, by case, doctor, book and weight. */
    private static final class Library {
        final Word[] all = new Word[WORDS];
        int size;
        final int[] copiesOf = new int[BOOKS];
        final int[] yesIn = new int[CASES];
        final int[] noIn = new int[CASES];
        final int[] latestLaw = new int[CASES];
        final int[] firstLaw = new int[CASES];
        final int[] ofDoctor = new int[DOCTORS];
        final int[] inBook = new int[BOOKS];
        final int[] ofWeight = new int[MARKS + 1];
        int lawWords;
        int noteWords;
        int inRing;
        int unsound;
        /** What each word follows, and what it comes to by following. */
        final int[] followed = new int[WORDS];
        final int[] reached = new int[WORDS];

        Library() {
            for (int w = 0; w < WORDS; w++) {
                all[w] = new Word();
            }
            clear();
            settle();
        }

        void clear() {
            size = 0;
            Arrays.fill(copiesOf, 2);
        }

        /** What follows from the words that have been told. */
        void settle() {
            sortWords();
            findFollowed();
            findRings();
            speakInOrder();
            weighAll();
            askLaws();
        }

        private void sortWords() {
            Arrays.fill(ofDoctor, 0);
            Arrays.fill(inBook, 0);
            lawWords = 0;
            noteWords = 0;
            for (int w = 0; w < size; w++) {
                Word word = all[w];
                inBook[word.book] |= 1 << w;
                if (word.doctor >= 0) {
                    ofDoctor[word.doctor] |= 1 << w;
                }
                lawWords |= word.kind == LAW ? 1 << w : 0;
                noteWords |= word.kind == NOTE ? 1 << w : 0;
            }
        }

        private void findFollowed() {
            for (int w = 0; w < size; w++) {
                Word word = all[w];
                followed[w] = 0;
                if (word.follows >= 0) {
                    followed[w] = 1 << word.follows;
                } else if (word.kind == LIKE && word.doctor >= 0) {
                    followed[w] = ofDoctor[word.doctor] & (1 << w) - 1 & ~noteWords;
                }
                reached[w] = followed[w];
            }
        }

        private void findRings() {
            for (int by = 0; by < size; by++) {
                for (int w = 0; w < size; w++) {
                    if (holds(reached[w], by)) {
                        reached[w] |= reached[by];
                    }
                }
            }
            inRing = 0;
            for (int w = 0; w < size; w++) {
                inRing |= reached[w] & 1 << w;
            }
            unsound = inRing;
            for (int w = 0; w < size; w++) {
                unsound |= (reached[w] & inRing) != 0 ? 1 << w : 0;
            }
        }

        /** A word speaks when all that it follows have spoken; each round brings one more at the least. */
        private void speakInOrder() {
            Arrays.fill(yesIn, 0);
            Arrays.fill(noIn, 0);
            int spoken = unsound;
            for (int round = 0; round < size; round++) {
                for (int w = 0; w < size; w++) {
                    if (!holds(spoken, w) && (followed[w] & ~spoken) == 0) {
                        speak(w);
                        spoken |= 1 << w;
                    }
                }
            }
            for (int w = 0; w < size; w++) {
                if (holds(unsound, w)) {
                    all[w].stepsToEnd = NONE;
                }
            }
        }

        private void speak(int w) {
            Word word = all[w];
            int answer = word.answer;
            if (word.kind == LIKE) {
                answer = agreed(yesIn[word.with] & followed[w], noIn[word.with] & followed[w]);
            }
            if (word.follows >= 0) {
                word.stepsToEnd = all[word.follows].stepsToEnd + 1;
            }
            for (int c = 0; c < CASES; c++) {
                int said = word.follows >= 0 ? followedSaying(word, c) : ownSaying(word, answer, c);
                yesIn[c] |= said == YES ? 1 << w : 0;
                noIn[c] |= said == NO ? 1 << w : 0;
            }
        }

        private int followedSaying(Word word, int c) {
            int said = saying(word.follows, c);
            return said != NONE && word.kind == AGAINST ? YES - said : said;
        }

        private static int ownSaying(Word word, int answer, int c) {
            return (c & word.with) == word.with && (c & word.without) == 0 ? answer : NONE;
        }

        private void weighAll() {
            Arrays.fill(ofWeight, 0);
            for (int w = 0; w < size; w++) {
                int weight = weightOf(w);
                all[w].weight = weight;
                if (weight >= 0 && weight < ofWeight.length) {
                    ofWeight[weight] |= 1 << w;
                }
            }
        }

        /** A sound word comes to its end within as many steps as there are words. */
        private int weightOf(int w) {
            if (all[w].follows >= 0 && holds(unsound, w)) {
                return 0;
            }
            int at = w;
            for (int step = 0; step < size && all[at].follows >= 0; step++) {
                at = all[at].follows;
            }
            return Integer.bitCount(all[at].with) + Integer.bitCount(all[at].without);
        }

        private void askLaws() {
            for (int c = 0; c < CASES; c++) {
                latestLaw[c] = lawSaying(c, true);
                firstLaw[c] = lawSaying(c, false);
            }
        }

        private int lawSaying(int c, boolean latest) {
            int speaking = speaking(c) & lawWords;
            int chosen = 0;
            int day = NONE;
            for (int w = 0; w < size && speaking != 0; w++) {
                if (holds(speaking, w)) {
                    int its = all[w].day;
                    if (chosen == 0 || (latest ? its > day : its < day)) {
                        chosen = 0;
                        day = its;
                    }
                    chosen |= its == day ? 1 << w : 0;
                }
            }
            return agreed(yesIn[c] & chosen, noIn[c] & chosen);
        }

        int speaking(int c) {
            return yesIn[c] | noIn[c];
        }

        int saying(int w, int c) {
            if ((yesIn[c] >>> w & 1) == 1) {
                return YES;
            }
            return (noIn[c] >>> w & 1) == 1 ? NO : NONE;
        }

        /** A law is a word of no doctor: it holds or not by itself, and never counts. */
        int counting(Rule rule, int books) {
            int words = mainWords(rule);
            for (int b = 0; b < BOOKS; b++) {
                if (holds(books, b) && copiesOf[b] >= rule.fewestCopies) {
                    words |= inBook[b];
                }
            }
            return words & ~lawWords & (rule.notes ? -1 : ~noteWords);
        }

        private int mainWords(Rule rule) {
            int words = 0;
            for (int d = 0; d < DOCTORS; d++) {
                words |= rule.isMain(d) ? ofDoctor[d] : 0;
            }
            return words;
        }

        /** Books by whose bringing words come to count at all; the bringing of others changes nothing. */
        int tellingBooks(Rule rule) {
            int others = ~(mainWords(rule) | lawWords);
            int books = 0;
            for (int b = 0; b < BOOKS; b++) {
                if (copiesOf[b] >= rule.fewestCopies && (inBook[b] & others) != 0) {
                    books |= 1 << b;
                }
            }
            return books;
        }

        boolean mayFollow(int w) {
            int follows = all[w].follows;
            return follows >= 0 && follows < size && follows != w && all[follows].kind != LAW;
        }
    }

    /** Reads a library's text. */
    private static final class LibraryReader {
        final Tokens tokens;
        int book;

        LibraryReader(Tokens tokens) {
            this.tokens = tokens;
        }

        /** How many lines, or FAILED; the library is to be settled if it did not fail. */
        int readInto(Library draft) {
            draft.clear();
            tokens.begin();
            book = 0;
            int toldCopies = 0;
            int lines = 0;
            tokens.advance();
            while (lines < TAPE_BYTES && tokens.fault == 0 && tokens.kind != END) {
                int line = tokens.kind == NAME ? tokens.among(LIBRARY_LINES) : -1;
                if (line < 0) {
                    tokens.fail(MISPLACED);
                } else if (line < IN_LINE) {
                    tellWord(draft, line);
                } else if (line == IN_LINE) {
                    book = tokens.takeNumber(BOOKS - 1);
                } else {
                    toldCopies |= tellCopies(draft, toldCopies);
                }
                tokens.closeLine();
                lines++;
            }
            findWrongFollowers(draft);
            return tokens.fault == 0 ? lines : FAILED;
        }

        /** The book as a bit. */
        private int tellCopies(Library draft, int toldCopies) {
            int of = tokens.takeNumber(BOOKS - 1);
            if (of >= 0 && holds(toldCopies, of)) {
                tokens.fail(TOLD_TWICE);
            }
            if (tokens.fault != 0) {
                return 0;
            }
            draft.copiesOf[of] = tokens.takeNumber(MOST_COPIES);
            return 1 << of;
        }

        private void tellWord(Library draft, int kind) {
            if (draft.size >= WORDS) {
                tokens.fail(TOO_MANY);
                return;
            }
            Word word = draft.all[draft.size];
            word.begin(kind, book);
            if (kind == LAW) {
                word.day = tokens.takeNumber(LAST_DAY);
            } else {
                word.doctor = tokens.takeDoctor();
            }
            if (tokens.fault == 0) {
                tellSaying(word);
            }
            draft.size += tokens.fault == 0 ? 1 : 0;
        }

        private void tellSaying(Word word) {
            if (word.kind == CITE || word.kind == AGAINST || word.kind == NOTE) {
                word.follows = tokens.takeNumber(WORDS - 1);
                word.place = tokens.start;
                return;
            }
            word.with = tokens.takeMarks();
            if (word.kind == LIKE || tokens.fault != 0) {
                return;
            }
            word.without = tokens.takeMarks();
            if (tokens.fault == 0 && (word.with & word.without) != 0) {
                tokens.fail(TOLD_TWICE);
            }
            if (tokens.fault == 0) {
                word.answer = tokens.takeAnswer();
            }
        }

        private void findWrongFollowers(Library draft) {
            for (int w = 0; w < draft.size && tokens.fault == 0; w++) {
                if (draft.all[w].follows >= 0 && !draft.mayFollow(w)) {
                    tokens.failAt(FOLLOWS_WRONGLY, draft.all[w].place);
                }
            }
        }
    }

    /** A rule of weight. */
    private static final class Rule {
        int main;
        int fewestCopies;
        boolean notes;
        int two;
        int head;
        int silent;
        int laws;

        Rule() {
            clear();
        }

        void clear() {
            main = 31;
            fewestCopies = 2;
            notes = false;
            two = TWO_NONE;
            head = NONE;
            silent = NONE;
            laws = LAWS_LATER;
        }

        void becomeAs(Rule other) {
            main = other.main;
            fewestCopies = other.fewestCopies;
            notes = other.notes;
            two = other.two;
            head = other.head;
            silent = other.silent;
            laws = other.laws;
        }

        boolean isMain(int d) {
            return (main >>> d & 1) == 1;
        }
    }

    /** Reads a rule's text. */
    private static final class RuleReader {
        final Tokens tokens;

        RuleReader(Tokens tokens) {
            this.tokens = tokens;
        }

        /** How many lines, or FAILED; the rule is whole only if it did not fail. */
        int readInto(Rule draft) {
            draft.clear();
            tokens.begin();
            int told = 0;
            int lines = 0;
            tokens.advance();
            while (lines < TAPE_BYTES && tokens.fault == 0 && tokens.kind != END) {
                int line = tokens.kind == NAME ? tokens.among(RULE_LINES) : -1;
                if (line < 0) {
                    tokens.fail(MISPLACED);
                } else if (holds(told, line)) {
                    tokens.fail(TOLD_TWICE);
                } else {
                    told |= 1 << line;
                    tell(draft, line);
                }
                tokens.closeLine();
                lines++;
            }
            return tokens.fault == 0 ? lines : FAILED;
        }

        private void tell(Rule draft, int line) {
            switch (line) {
                case MAIN_LINE:
                    draft.main = tokens.takeDoctors();
                    break;
                case COPIES_LINE:
                    draft.fewestCopies = tokens.takeNumber(MOST_COPIES);
                    break;
                case NOTES_LINE:
                    draft.notes = true;
                    break;
                case TWO_LINE:
                    draft.two = tokens.takeOneOf("none later special");
                    break;
                case HEAD_LINE:
                    draft.head = tokens.takeDoctor();
                    break;
                case SILENT_LINE:
                    draft.silent = tokens.takeOneOf("no yes open");
                    draft.silent = draft.silent > YES ? NONE : draft.silent;
                    break;
                default:
                    draft.laws = tokens.takeOneOf("none later first");
            }
        }
    }

    /** Weighs one case after another by a library, a rule and the books that are brought. */
    private static final class Weighing {
        Library library;
        Rule rule;
        int counting;
        final int[] opinions = new int[DOCTORS];
        /** Of the case that was weighed last: */
        int weighed;
        int law;
        int yes;
        int no;
        int by;
        int held;

        Weighing(Library library, Rule rule) {
            this.library = library;
            this.rule = rule;
        }

        void begin(Library itsLibrary, Rule itsRule, int books) {
            library = itsLibrary;
            rule = itsRule;
            counting = itsLibrary.counting(itsRule, books);
        }

        void weigh(int c) {
            weighed = c;
            law = lawIn(c);
            yes = 0;
            no = 0;
            for (int d = 0; d < DOCTORS; d++) {
                int opinion = opinion(d, c);
                opinions[d] = opinion;
                yes += opinion == YES ? 1 : 0;
                no += opinion == NO ? 1 : 0;
            }
            int headSays = headSaying();
            by = decider(yes, no, headSays);
            held = answerBy(by, yes, no, headSays);
        }

        int heldIn(int c) {
            weigh(c);
            return held;
        }

        private int lawIn(int c) {
            if (rule.laws == LAWS_NONE) {
                return NONE;
            }
            return rule.laws == LAWS_FIRST ? library.firstLaw[c] : library.latestLaw[c];
        }

        private int headSaying() {
            return rule.head >= 0 && rule.head < DOCTORS ? opinions[rule.head] : NONE;
        }

        private int decider(int yesDoctors, int noDoctors, int headSays) {
            if (law != NONE) {
                return BY_LAW;
            }
            if (yesDoctors != noDoctors) {
                return BY_MOST;
            }
            if (headSays != NONE) {
                return BY_HEAD;
            }
            return rule.silent != NONE ? BY_SILENCE : BY_NOTHING;
        }

        private int answerBy(int what, int yesDoctors, int noDoctors, int headSays) {
            switch (what) {
                case BY_LAW: return law;
                case BY_MOST: return yesDoctors > noDoctors ? YES : NO;
                case BY_HEAD: return headSays;
                case BY_SILENCE: return rule.silent;
                default: return NONE;
            }
        }

        int opinion(int d, int c) {
            int his = library.ofDoctor[d] & counting;
            return settled(his & library.yesIn[c], his & library.noIn[c], 0);
        }

        boolean clashes(int d, int c) {
            int his = library.ofDoctor[d] & counting;
            return (his & library.yesIn[c]) != 0 && (his & library.noIn[c]) != 0;
        }

        /** What becomes of words for yes and for no of one doctor. */
        private int settled(int yesWords, int noWords, int foundWeight) {
            if (yesWords == 0 || noWords == 0) {
                return agreed(yesWords, noWords);
            }
            if (rule.two == TWO_LATER) {
                // The greater number as bits has the greatest word in it.
                return yesWords > noWords ? YES : NO;
            }
            if (rule.two == TWO_SPECIAL) {
                int heaviest = heaviest(yesWords | noWords, foundWeight);
                return agreed(yesWords & heaviest, noWords & heaviest);
            }
            return NONE;
        }

        private int heaviest(int words, int foundWeight) {
            for (int weight = MARKS; weight >= 0; weight--) {
                int heavy = words & (library.ofWeight[weight] | (weight == foundWeight ? FOUND : 0));
                if (heavy != 0) {
                    return heavy;
                }
            }
            return 0;
        }

        /** What would be held in the case that was weighed last, if a doctor said this of it. */
        int heldIf(int d, int opinion) {
            int yesDoctors = yes - (opinions[d] == YES ? 1 : 0) + (opinion == YES ? 1 : 0);
            int noDoctors = no - (opinions[d] == NO ? 1 : 0) + (opinion == NO ? 1 : 0);
            int headSays = rule.head == d ? opinion : headSaying();
            return answerBy(decider(yesDoctors, noDoctors, headSays), yesDoctors, noDoctors, headSays);
        }

        /** Whether a word that is found and says this of the case that was weighed last turns it. */
        boolean turnsBy(int d, int answer, int weight) {
            int his = library.ofDoctor[d] & counting;
            int yesWords = his & library.yesIn[weighed] | (answer == YES ? FOUND : 0);
            int noWords = his & library.noIn[weighed] | (answer == NO ? FOUND : 0);
            int opinion = settled(yesWords, noWords, weight);
            return opinion != opinions[d] && heldIf(d, opinion) != held;
        }

        /** The cases of which cases(what) tells. */
        long casesOf(int what) {
            long those = 0L;
            for (int c = 0; c < CASES; c++) {
                weigh(c);
                int kind = what >= 10 ? 10 + by : held == YES ? 0 : held == NO ? 1 : 2;
                those |= kind == what ? 1L << c : 0L;
            }
            return those;
        }
    }

    /** Looks for the word that, found, would turn most; its places stand in the order in which the first is best. */
    private static final class Finding {
        final Weighing weighing;
        final int[] turned = new int[DOCTORS * 2 * CASES];

        Finding(Weighing weighing) {
            this.weighing = weighing;
        }

        static int doctorAt(int place) {
            return place / (2 * CASES);
        }

        static int answerAt(int place) {
            return place / CASES % 2;
        }

        static int marksAt(int place) {
            return place % CASES;
        }

        /** The place of the best one, or -1. */
        int best() {
            Arrays.fill(turned, 0);
            for (int c = 0; c < CASES; c++) {
                weighing.weigh(c);
                // No doctor's word turns what a law decides.
                if (weighing.law == NONE) {
                    tallyDoctors();
                }
            }
            int best = -1;
            for (int i = 0; i < turned.length; i++) {
                if (weighing.rule.isMain(doctorAt(i)) && (best < 0 || turned[i] > turned[best])) {
                    best = i;
                }
            }
            return best;
        }

        private void tallyDoctors() {
            for (int d = 0; d < DOCTORS; d++) {
                if (weighing.rule.isMain(d)) {
                    tally(d, NO);
                    tally(d, YES);
                }
            }
        }

        private void tally(int d, int answer) {
            int c = weighing.weighed;
            int turningWeights = 0;
            for (int weight = 0; weight <= MARKS; weight++) {
                turningWeights |= weighing.turnsBy(d, answer, weight) ? 1 << weight : 0;
            }
            for (int marks = 0; marks <= c && turningWeights != 0; marks++) {
                if ((marks & ~c) == 0 && holds(turningWeights, Integer.bitCount(marks))) {
                    turned[(d * 2 + answer) * CASES + marks]++;
                }
            }
        }
    }

    /** A row of cells of a lane, or nothing. */
    private static final class Sheet {
        final int[] cells = new int[CELLS];
        int lane = NONE;
        int size;

        Sheet() {
        }

        boolean isNothing() {
            return lane == NONE;
        }

        boolean hasCell(int i) {
            return i >= 0 && i < size;
        }

        void renew(int itsLane, int n) {
            lane = itsLane;
            size = n;
            Arrays.fill(cells, 0);
        }

        void put(int i, int v) {
            cells[i] = lane == BYTES_LANE ? (byte) v : lane == SHORTS_LANE ? (short) v : v;
        }
    }
}
