import java.io.IOException;

/** The edges of what is held, of books, found words, rules and sheets, sentence by sentence as the document has them. */
public final class HeldEdgesTest extends Telling {
    public static void main(String[] args) throws IOException {
        heldByTheFirst();
        lawsByDays();
        lawsThatPart();
        headSays();
        cases();
        reckoning();
        widest();
        nearest();
        nearestOfSeveral();
        bringing();
        copiesBecome();
        fewest();
        fewestOfSeveral();
        fewestByBringing();
        sevenBooks();
        game();
        gameFromNoBooks();
        found();
        foundMost();
        foundOfSeveral();
        notMain();
        sides();
        hangs();
        brief();
        briefOpen();
        keepAndSwap();
        differ();
        sheetSizes();
        sheetLanes();
        cellsBecome();
        readCells();
        readFaults();
        machineFaults();
        counts();
        compareWithDocument();
        finish();
    }

    /** Words in every case: the first doctors say yes, as many behind them say no. */
    private static String yesAndNo(int yes, int no) {
        StringBuilder text = new StringBuilder();
        for (int d = 0; d < yes + no; d++) {
            text.append("word ").append(doctor(d)).append(" - - ").append(yesNo(d < yes ? 1 : 0)).append(';');
        }
        return text.toString();
    }

    private static void dueHeld(String what, LearnedCount x, int c, int held, int by, int yes, int no) {
        due(what + ": what is held", x.held(c, 0), held);
        due(what + ": by what", x.held(c, 1), by);
        due(what + ": yes", x.held(c, 2), yes);
        due(what + ": no", x.held(c, 3), no);
        due(what + ": reckoned", x.reckon(c, by, yes, no, held), 0);
    }

    // ---- what is held

    private static final String[] LAWS = {"", "law 5 - - yes;", "law 5 - - no;", "law 5 - - no;law 5 - - yes;"};
    private static final int[] LAW_SAYS = {NONE, 1, 0, NONE};
    private static final String[] SILENT = {"", "silent yes;", "silent no;", "silent open;"};
    private static final int[] SILENT_SAYS = {NONE, 1, 0, NONE};

    private static void heldByTheFirst() {
        about("HELD in a CASE, by the first that decides: LAW (1): of laws that say something those of the greatest DAY (laws first: the least), if they say the same (laws none: this does not decide). MOST (2): YES and NO of DOCTORS are not as many: the greater number. HEAD (3): what the head says. SILENCE (4): silent yes, no. OPEN (0) else.");
        for (int yes = 0; yes <= 8; yes++) {
            for (int no = 0; yes + no <= 8; no++) {
                for (int i = 0; i < 4; i++) {
                    for (int head = -1; head < 8; head++) {
                        LearnedCount x = told(yesAndNo(yes, no) + LAWS[i]);
                        for (int j = 0; j < 4; j++) {
                            rule(x, (head < 0 ? "" : "head " + doctor(head) + ";") + SILENT[j]);
                            int headSays = head < 0 || head >= yes + no ? NONE : head < yes ? 1 : 0;
                            dueByTheFirst(x, LAW_SAYS[i], yes, no, headSays, SILENT_SAYS[j]);
                        }
                    }
                }
            }
        }
    }

    private static void dueByTheFirst(LearnedCount x, int law, int yes, int no, int head, int silent) {
        String what = yes + " and " + no + ", law " + law + ", head " + head + ", silence " + silent;
        if (law != NONE) {
            dueHeld(what, x, 63, law, 1, yes, no);
        } else if (yes != no) {
            dueHeld(what, x, 63, yes > no ? 1 : 0, 2, yes, no);
        } else if (head != NONE) {
            dueHeld(what, x, 63, head, 3, yes, no);
        } else if (silent != NONE) {
            dueHeld(what, x, 63, silent, 4, yes, no);
        } else {
            dueHeld(what, x, 63, NONE, 0, yes, no);
        }
    }

    private static void lawsByDays() {
        about("LAW (1): of laws that say something those of the greatest DAY (laws first: the least), if they say the same (laws none: this does not decide).");
        int[] days = {0, 1, 9, 10, 99, 100, 998, 999};
        for (int one : days) {
            for (int other : days) {
                LearnedCount x = told("law " + one + " - - yes;law " + other + " - - no;");
                int later = one == other ? NONE : one > other ? 1 : 0;
                int first = one == other ? NONE : one < other ? 1 : 0;
                String what = "days " + one + " and " + other;
                dueHeld(what, x, 0, later, later == NONE ? 0 : 1, 0, 0);
                rule(x, "laws later;");
                dueHeld(what, x, 0, later, later == NONE ? 0 : 1, 0, 0);
                rule(x, "laws first;");
                dueHeld(what + ", first", x, 0, first, first == NONE ? 0 : 1, 0, 0);
                rule(x, "laws none;");
                dueHeld(what + ", none", x, 0, NONE, 0, 0, 0);
                rule(x, "laws none;silent no;");
                dueHeld(what + ", none, silent", x, 0, 0, 4, 0, 0);
            }
        }
    }

    private static void lawsThatPart() {
        about("if they say the same");
        LearnedCount x = told("law 5 p - yes;law 5 p - yes;law 5 pq - no;law 3 - - no;law 7 u - no;word a - - yes;");
        dueHeld("two of one day say the same", x, 1, 1, 1, 1, 0);
        dueHeld("three of one day part: the older one does not decide", x, 3, 1, 2, 1, 0);
        dueHeld("the older one alone", x, 0, 0, 1, 1, 0);
        dueHeld("one later than those that part", x, 35, 0, 1, 1, 0);
        rule(x, "laws first;");
        dueHeld("the first one", x, 3, 0, 1, 1, 0);
        int[] days = {2, 4, 6};
        for (int i = 0; i < 27; i++) {
            int[] its = {days[i % 3], days[i / 3 % 3], days[i / 9]};
            lawsOfThreeDays(its);
        }
        LearnedCount y = told("law 3 - - yes;law 3 p - no;law 9 - - no;", "laws first;silent yes;");
        dueHeld("the first ones part", y, 1, 1, 4, 0, 0);
        dueHeld("the first one alone", y, 0, 1, 1, 0, 0);
    }

    /** Three laws and a word ahead of them; each of the laws in turn says what the two others do not. */
    private static void lawsOfThreeDays(int[] days) {
        for (int other = 0; other < 3; other++) {
            StringBuilder text = new StringBuilder("word a - - yes;");
            int[] answers = {0, 0, 0};
            answers[other] = 1;
            for (int i = 0; i < 3; i++) {
                text.append("law ").append(days[i]).append(" - - ").append(yesNo(answers[i])).append(';');
            }
            LearnedCount x = told(text.toString());
            int greatest = Math.max(days[0], Math.max(days[1], days[2]));
            int least = Math.min(days[0], Math.min(days[1], days[2]));
            int later = sayingOf(days, answers, greatest);
            dueHeld("'" + text + "'", x, 0, later == NONE ? 1 : later, later == NONE ? 2 : 1, 1, 0);
            rule(x, "laws first;");
            int first = sayingOf(days, answers, least);
            dueHeld("'" + text + "', first", x, 0, first == NONE ? 1 : first, first == NONE ? 2 : 1, 1, 0);
        }
    }

    private static int sayingOf(int[] days, int[] answers, int day) {
        boolean yes = false;
        boolean no = false;
        for (int i = 0; i < days.length; i++) {
            yes |= days[i] == day && answers[i] == 1;
            no |= days[i] == day && answers[i] == 0;
        }
        return yes == no ? NONE : yes ? 1 : 0;
    }

    private static void headSays() {
        about("HEAD (3): what the head says.");
        LearnedCount x = told("word a - - yes;word b - - no;in 4;word h - - yes;word g - - no;", "head h;");
        dueHeld("a head who is not main", x, 0, 1, 3, 2, 2);
        x.bring(0);
        dueHeld("a head whose book is not there", x, 0, NONE, 0, 1, 1);
        x.copies(4, 1);
        x.bring(255);
        dueHeld("a head whose book has too few copies", x, 0, NONE, 0, 1, 1);
        rule(x, "head c;silent no;");
        dueHeld("a head who has no words", x, 0, 0, 4, 1, 1);
        LearnedCount y = told("word a - - yes;word a - - no;word b - - yes;word c - - no;", "head a;");
        dueHeld("a head who says two things", y, 0, NONE, 0, 1, 1);
        rule(y, "head a;two later;");
        dueHeld("of which the later is taken", y, 0, 0, 2, 1, 2);
    }

    private static void cases() {
        about("CASES, as bits: 0 YES is HELD, 1 NO, 2 OPEN; 10 and k: by what (0 to 4). BAD 0 (what).");
        for (int c = 0; c < 64; c++) {
            LearnedCount x = told("law 1 " + marks(c) + " " + marks(63 & ~c) + " yes;");
            due("case " + c + " alone is yes", x.cases(0), 1L << c);
            due("no case is no", x.cases(1), 0);
            due("the others are open", x.cases(2), ~(1L << c));
            due("by law", x.cases(11), 1L << c);
            due("by nothing", x.cases(10), ~(1L << c));
            due("many", x.many(0), 1);
            due("many others", x.many(2), 63);
        }
        LearnedCount all = told("", "silent yes;");
        due("all cases", all.cases(0), -1);
        due("all cases", all.many(14), 64);
        due("none", all.many(1), 0);
    }

    private static void reckoning() {
        about("A RECKONING: 0 right; 1 by what, 2 YES, 3 NO, 4 what is HELD is wrong. BAD: the CASE.");
        about("A RECKONING of a CASE (by whom it holds, how many YES, how many NO, what is HELD) is looked at in that order: the first that is wrong.");
        LearnedCount x = told(yesAndNo(3, 2));
        int[] right = {2, 3, 2, 1};
        due("right", x.reckon(63, 2, 3, 2, 1), 0);
        for (int wrong = 1; wrong < 16; wrong++) {
            int[] a = right.clone();
            for (int i = 0; i < 4; i++) {
                a[i] += (wrong >>> i & 1) == 1 ? 1 : 0;
            }
            due("the first of " + wrong, x.reckon(0, a[0], a[1], a[2], a[3]), Integer.numberOfTrailingZeros(wrong) + 1);
        }
        for (int n : new int[] {LOW, HIGH, -1, 64, 256}) {
            due("by " + n, x.reckon(0, n, 3, 2, 1), 1);
            due("yes " + n, x.reckon(0, 2, n, 2, 1), 2);
            due("no " + n, x.reckon(0, 2, 3, n, 1), 3);
            due("answer " + n, x.reckon(0, 2, 3, 2, n), 4);
            due("of no case", x.reckon(n == 256 ? -2 : n, 2, 3, 2, 1), n == 256 || n > 63 || n < 0 ? BAD : 0);
        }
        LearnedCount open = new LearnedCount();
        due("open is NONE", open.reckon(63, 0, 0, 0, NONE), 0);
        for (int n : new int[] {-1, 0, 1, 2}) {
            due("open is not " + n, open.reckon(63, 0, 0, 0, n), 4);
        }
    }

    private static void widest() {
        about("The CASE on which they part widest: the greatest lesser one of YES and NO, of several the most that say something, then the least (what 0); that lesser one (1). BAD; NONE: none say anything of any.");
        for (int yes = 0; yes <= 8; yes++) {
            for (int no = 0; yes + no <= 8; no++) {
                LearnedCount x = told(yesAndNo(yes, no));
                due(yes + " and " + no, x.widest(0), yes + no == 0 ? NONE : 0);
                due(yes + " and " + no, x.widest(1), yes + no == 0 ? NONE : Math.min(yes, no));
            }
        }
        for (int c = 0; c < 64; c++) {
            String there = marks(c) + " " + marks(63 & ~c);
            due("one says something of case " + c, told("word a " + there + " no;").widest(0), c);
            LearnedCount x = told("word a - - yes;word b - - yes;word c - - yes;word d " + there + " no;");
            due("they part in case " + c, x.widest(0), c);
            due("they part by one", x.widest(1), 1);
            LearnedCount y = told("word a - - yes;word b - - no;word c " + there + " yes;");
            due("more say something of case " + c, y.widest(0), c);
            due("they part by one", y.widest(1), 1);
        }
        due("a greater lesser one ahead of more", told("word a pq - yes;word b pq - no;word c - q yes;word d - q yes;word e - q yes;").widest(0), 3);
        due("laws say nothing here", told("law 1 - - yes;law 2 - - no;").widest(0), NONE);
        LearnedCount books = told("word h - - yes;");
        books.bring(0);
        due("words that do not count say nothing here", books.widest(1), NONE);
    }

    private static void nearest() {
        about("The nearest CASE in which an answer is HELD to a CASE (fewest MARKS that are otherwise, of several the least; what 0), how many MARKS (1). BAD; NONE.");
        for (int held = 0; held < 64; held++) {
            int answer = held & 1;
            LearnedCount x = told("law 1 " + marks(held) + " " + marks(63 & ~held) + " " + yesNo(answer) + ";");
            for (int c = 0; c < 64; c++) {
                due("the one case from " + c, x.near(c, answer, 0), held);
                due("its marks from " + c, x.near(c, answer, 1), Integer.bitCount(c ^ held));
                due("no case from " + c, x.near(c, 1 - answer, 0), NONE);
                due("no marks from " + c, x.near(c, 1 - answer, 1), NONE);
            }
        }
    }

    private static void nearestOfSeveral() {
        about("fewest MARKS that are otherwise, of several the least");
        LearnedCount x = told("law 2 " + marks(0) + " " + marks(63) + " no;law 2 pqrstu - no;law 1 - - yes;");
        due("of six", x.near(0, 1, 0), 1);
        due("of six, from 63", x.near(63, 1, 0), 31);
        due("one mark", x.near(63, 1, 1), 1);
        due("of two", x.near(7, 0, 0), 0);
        due("three marks", x.near(7, 0, 1), 3);
        due("the nearer one", x.near(15, 0, 0), 63);
        due("itself", x.near(5, 1, 0), 5);
        due("itself", x.near(5, 1, 1), 0);
        LearnedCount all = told("", "silent no;");
        due("silence holds, too", all.near(63, 0, 0), 63);
        due("none", all.near(63, 1, 0), NONE);
    }

    // ---- books

    private static void bringing() {
        about("BOOKS (bits) are BROUGHT: those that were. BAD.");
        LearnedCount x = new LearnedCount();
        int were = 255;
        for (int set = 0; set < 256; set++) {
            if (set % 128 == 0) {
                x = new LearnedCount();
                were = 255;
            }
            due("bring(" + set + ")", x.bring(set), were);
            due("how many", x.count(2), Integer.bitCount(set));
            were = set;
        }
        for (int set : new int[] {-1, 256, 257, 511, LOW, HIGH, -256}) {
            due("bring(" + set + ")", x.bring(set), BAD);
        }
        due("those that were", x.bring(0), 255);
        due("none were", x.bring(0), 0);
    }

    private static void copiesBecome() {
        about("Copies of a BOOK become n (0 to 9): what they were. BAD.");
        LearnedCount x = told("copies 0 9;");
        for (int b = 0; b < 8; b++) {
            int were = b == 0 ? 9 : 2;
            for (int n = 0; n < 10; n++) {
                due("copies(" + b + ", " + n + ")", x.copies(b, n), were);
                due("they are", x.count(10 + b), n);
                were = n;
            }
            for (int n : new int[] {-1, 10, LOW, HIGH}) {
                due("copies(" + b + ", " + n + ")", x.copies(b, n), BAD);
                due("copies(" + (n < 0 ? n : n - 2) + ", 1)", x.copies(n < 0 ? n : n - 2, 1), BAD);
            }
            due("they stay", x.count(10 + b), 9);
        }
        LearnedCount y = told("word h - - yes;in 7;word g - - yes;");
        y.copies(0, 1);
        due("too few for one", y.held(0, 2), 1);
        y.copies(7, 1);
        due("too few for both", y.held(0, 2), 0);
        y.copies(0, 2);
        due("enough for one", y.held(0, 2), 1);
    }

    /** As many doctors who are main say no, and each of the others says yes in a book of its own number. */
    private static LearnedCount mainSayNo(int main, String more) {
        StringBuilder text = new StringBuilder();
        for (int d = 0; d < 8; d++) {
            text.append("in ").append(d).append(";word ").append(doctor(d)).append(" - - ").append(yesNo(d < main ? 0 : 1)).append(';');
        }
        return told(text.toString(), "main " + letters('a', (1 << main) - 1) + ";" + more);
    }

    private static void fewest() {
        about("FEWEST for an answer: the least number of BOOKS (of several sets the least bits) by which it is HELD.");
        for (int main = 1; main <= 7; main++) {
            LearnedCount x = mainSayNo(main, "");
            boolean enough = 8 - main > main;
            due("more than " + main, x.argue(63, 1, 0), enough ? main + 1 : NONE);
            due("these", x.argue(63, 1, 1), enough ? ((1 << main + 1) - 1) << main : NONE);
            due("no book for no", x.argue(63, 0, 0), 0);
            due("no book for no", x.argue(63, 0, 1), 0);
            LearnedCount y = mainSayNo(main, "head h;");
            due("as many as " + main + ", and the head", y.argue(63, 1, 0), main <= 4 ? main : NONE);
            int ones = ((1 << main - 1) - 1) << main | 128;
            due("these with the head's", y.argue(63, 1, 1), main <= 4 ? ones : NONE);
            LearnedCount z = mainSayNo(main, "silent yes;");
            due("as many as " + main + ", and silence", z.argue(63, 1, 0), main <= 4 ? main : NONE);
        }
        LearnedCount brought = mainSayNo(2, "");
        for (int set : new int[] {0, 1, 128, 255}) {
            brought.bring(set);
            due("whatever is brought", brought.argue(0, 1, 1), 28);
            due("what is brought stays", brought.bring(set), set);
        }
    }

    private static void fewestOfSeveral() {
        about("of several sets the least bits");
        for (int b = 0; b < 8; b++) {
            LearnedCount x = told("in " + b + ";word h - - yes;");
            due("book " + b, x.argue(0, 1, 0), 1);
            due("book " + b, x.argue(0, 1, 1), 1 << b);
            due("never no", x.argue(0, 0, 0), NONE);
            x.copies(b, 1);
            due("too few copies", x.argue(0, 1, 1), NONE);
            for (int other = 0; other < 8; other++) {
                LearnedCount y = told("in " + b + ";word h - - yes;in " + other + ";word g - - yes;");
                due("books " + b + " and " + other, y.argue(0, 1, 1), 1 << Math.min(b, other));
            }
        }
        due("one with greater bits ahead of two", told("word a - - no;word b - - no;in 0;word f - - yes;in 1;word g - - yes;in 7;word f - - yes;word g - - yes;word h - - yes;").argue(0, 1, 1), 128);
        due("a book that spoils it", told("in 0;word f - - yes;in 1;word f - - no;").argue(0, 1, 1), 1);
        due("for no", told("in 0;word f - - yes;in 1;word f - - no;").argue(0, 0, 1), 2);
        due("a law holds by no book", told("in 5;law 1 - - yes;").argue(0, 1, 0), 0);
        due("silence holds by no book", told("", "silent no;").argue(0, 0, 1), 0);
        due("notes", told("in 5;word a p - yes;note h 0;in 6;cite g 0;", "notes;main b;").argue(1, 1, 1), 32);
        due("no notes", told("in 6;word a p - yes;in 5;note h 0;", "main b;").argue(1, 1, 1), 64);
    }

    /** Brings every set of books, half of them to one object and half to another, and looks for the least by itself. */
    private static int fewestByBringing(String library, String rule, int c, int answer) {
        int fewest = NONE;
        LearnedCount x = told(library, rule);
        for (int set = 0; set < 256; set++) {
            if (set == 128) {
                x = told(library, rule);
            }
            x.bring(set);
            boolean fewer = fewest == NONE || Integer.bitCount(set) < Integer.bitCount(fewest);
            if (x.held(c, 0) == answer && fewer) {
                fewest = set;
            }
        }
        return fewest;
    }

    private static void dueFewest(String library, String rule, int c, int answer) {
        int fewest = fewestByBringing(library, rule, c, answer);
        LearnedCount x = told(library, rule);
        due("fewest of '" + library + "' by '" + rule + "'", x.argue(c, answer, 1), fewest);
        due("how many", x.argue(c, answer, 0), fewest == NONE ? NONE : Integer.bitCount(fewest));
    }

    private static void fewestByBringing() {
        about("BRINGING: a set of BOOKS is BROUGHT.");
        String[] libraries = {
            "word a - - no;in 1;word f - - yes;word g p - no;in 2;word g - - yes;in 3;word h p - yes;copies 3 1;in 7;word b - - yes;word f - - no;",
            "in 0;word b - - yes;word c - - no;word d - - no;in 6;word c pq - yes;word e - - no;in 7;word d pqr - yes;word b - - no;",
            "in 5;word b p q yes;in 4;note c 0;against d 0;in 3;like b p;cite e 1;in 2;word a - - no;", "law 3 pq - no;in 1;word h - - yes;in 2;word g p - no;",
        };
        for (String library : libraries) {
            for (String rule : new String[] {"main a;", "main a;two later;", "main a;two special;head c;", "main h;notes;silent no;copies 1;", ""}) {
                for (int c : new int[] {0, 1, 7, 63}) {
                    dueFewest(library, rule, c, 0);
                    dueFewest(library, rule, c, 1);
                }
            }
        }
    }

    /** Each of b to h says no in some books and yes in one; where both are there, that one says nothing. */
    private static final int[] NO_IN = {0x13, 0x00, 0x61, 0xa8, 0x0c, 0x48, 0x0b};
    private static final int[] YES_IN = {0x10, 0x40, 0x02, 0x04, 0x08, 0x20, 0x80};

    private static void sevenBooks() {
        about("FEWEST for an answer: the least number of BOOKS (of several sets the least bits) by which it is HELD.");
        for (int answer = 0; answer < 2; answer++) {
            StringBuilder text = new StringBuilder();
            for (int b = 0; b < 8; b++) {
                text.append("in ").append(b).append(';');
                for (int i = 0; i < 7; i++) {
                    String word = "word " + doctor(i + 1) + " - - ";
                    text.append((NO_IN[i] >>> b & 1) == 1 ? word + yesNo(1 - answer) + ";" : "");
                    text.append((YES_IN[i] >>> b & 1) == 1 ? word + yesNo(answer) + ";" : "");
                }
            }
            LearnedCount x = told(text.toString(), "main a;");
            due("seven books", x.argue(0, answer, 0), 7);
            due("all but book 0", x.argue(0, answer, 1), 0xfe);
            dueFewest(text.toString(), "main a;", 63, answer);
        }
    }

    private static void game() {
        about("THE GAME of a CASE, from no BOOKS: the one for YES and the one for NO by turns bring one more BOOK (0 to 5 alone; not one that is there) or pass; it ends behind two passes one behind the other, or when all six are there; what is HELD then: for each the own answer is best, OPEN next, the other one worst; both play best.");
        for (int b = 0; b < 8; b++) {
            for (int answer = 0; answer < 2; answer++) {
                LearnedCount x = told("in " + b + ";word h - - " + yesNo(answer) + ";");
                for (int begins = 0; begins < 2; begins++) {
                    due("a word in book " + b, x.game(0, begins, 0), b < 6 ? answer : NONE);
                    due("the first turn", x.game(0, begins, 1), 0);
                }
            }
        }
        for (int yes = 0; yes < 4; yes++) {
            for (int no = 0; no < 4; no++) {
                StringBuilder text = new StringBuilder();
                for (int i = 0; i < yes; i++) {
                    text.append("in ").append(i).append(";word ").append(doctor(i)).append(" - - yes;");
                }
                for (int i = 0; i < no; i++) {
                    text.append("in ").append(5 - i).append(";word ").append(doctor(7 - i)).append(" - - no;");
                }
                LearnedCount x = told(text.toString(), "main d;");
                for (int begins = 0; begins < 2; begins++) {
                    int held = yes == no ? NONE : yes > no ? 1 : 0;
                    due(yes + " and " + no, x.game(63, begins, 0), held);
                    due(yes + " and " + no + ", the first turn", x.game(63, begins, 1), 0);
                }
            }
        }
    }

    private static void gameFromNoBooks() {
        about("THE GAME of a CASE, from no BOOKS");
        LearnedCount x = told("in 6;word h - - yes;in 7;word g - - yes;in 5;word f p - no;");
        for (int set : new int[] {0, 32, 192, 255}) {
            x.bring(set);
            due("books 6 and 7 are not there", x.game(0, 1, 0), NONE);
            due("book 5 is", x.game(1, 1, 0), 0);
            due("those that are brought stay", x.bring(set), set);
        }
        x.copies(5, 1);
        due("too few copies", x.game(1, 1, 0), NONE);
        due("a law", told("law 1 - - yes;in 1;word h - - no;").game(0, 0, 0), 1);
        due("silence", told("", "silent no;").game(0, 1, 0), 0);
        due("one who is main needs no book", told("in 7;word a - - yes;").game(0, 0, 0), 1);
    }

    // ---- found words

    private static final String[] FOUND_LIBRARIES = {
        "", "word a p - yes;word b q - no;cite c 0;", "word a pq r yes;word a s - no;like a pq;in 3;word f - - yes;word g - u no;",
        "law 3 u - yes;word a - - no;word b - - no;word c - p yes;", "word b - - yes;against c 0;word d p - yes;word e q r no;word a rs - yes;",
    };
    private static final String[] FOUND_RULES = {"", "two later;", "two special;", "two special;head a;silent yes;", "main ah;head h;silent no;two later;"};

    private static void found() {
        about("FOUND: of a DOCTOR who is MAIN one WORD more, behind all others (where all of some MARKS are so, an answer): it TURNS a CASE, if what is HELD is another thing then (OPEN is one, too).");
        for (String library : FOUND_LIBRARIES) {
            for (String rule : FOUND_RULES) {
                int[] best = {-1, 0, 0, 0};
                for (int i = 0; i < 16; i++) {
                    best = foundOfOne(library, rule, i / 2, i % 2, best);
                }
                LearnedCount x = told(library, rule);
                for (int what = 0; what < 4; what++) {
                    due("turn(" + what + ") of '" + library + "' by '" + rule + "'", x.turn(what), best[what]);
                }
            }
        }
    }

    /** Holds turns against what is held when the word is told behind all others; the best word so far, and of these. */
    private static int[] foundOfOne(String library, String rule, int d, int answer, int[] bestSoFar) {
        LearnedCount x = told(library, rule);
        boolean main = (x.weighs(0) >>> d & 1) == 1;
        long yes = x.cases(0);
        long no = x.cases(1);
        int[] best = bestSoFar;
        for (int set = 0; set < 64; set++) {
            LearnedCount y = told(library + "word " + doctor(d) + " " + marks(set) + " - " + yesNo(answer) + ";", rule);
            int due = main ? Long.bitCount(yes ^ y.cases(0) | no ^ y.cases(1)) : STATE;
            due("turns(" + d + ", " + answer + ", " + set + ") of '" + library + "' by '" + rule + "'", x.turns(d, answer, set), due);
            if (due > best[0]) {
                best = new int[] {due, d, answer, set};
            }
        }
        return best;
    }

    private static void foundMost() {
        about("FOUND: of all DOCTORS that are MAIN, answers, MARKS that which TURNS the most CASES: 0 how many, 1 the DOCTOR, 2 the answer, 3 MARKS (bits; of several the least DOCTOR, then NO ahead of YES, then the least bits). BAD; NONE: none is MAIN.");
        LearnedCount none = told("law 1 - - yes;");
        int[] due = {0, 0, 0, 0};
        for (int what = 0; what < 4; what++) {
            due("none turns: turn(" + what + ")", none.turn(what), due[what]);
        }
        LearnedCount all = new LearnedCount();
        due("all", all.turn(0), 64);
        due("all, once more", all.turn(0), 64);
        library(all, "law 1 p - no;");
        due("half of them", all.turn(0), 32);
        due("half of them, once more", all.turn(0), 32);
        String full = "word a - - yes;".repeat(24);
        LearnedCount x = told(full, "main a;");
        due("behind 24 words", x.turn(0), 64);
        due("the answer", x.turn(2), 0);
        rule(x, "main a;two later;");
        due("the latest of 25 words", x.turns(0, 0, 0), 64);
        due("the latest of 25 words", x.turns(0, 1, 0), 0);
    }

    private static void foundOfSeveral() {
        about("of several the least DOCTOR, then NO ahead of YES, then the least bits");
        for (int d = 0; d < 8; d++) {
            LearnedCount x = told("", "main " + letters('a', 255 << d & 255) + ";");
            due("the least doctor", x.turn(1), d);
            due("no ahead of yes", x.turn(2), 0);
            due("the least bits", x.turn(3), 0);
            LearnedCount y = told("", "silent no;main " + doctor(d) + ";");
            due("yes, if it turns more", y.turn(2), 1);
            due("of the one who is main", y.turn(1), d);
        }
        for (int c = 0; c < 64; c++) {
            LearnedCount x = told("word a " + marks(c) + " " + marks(63 & ~c) + " yes;law 1 - - no;law 2 " + marks(c) + " " + marks(63 & ~c) + " no;law 2 " + marks(c) + " " + marks(63 & ~c) + " yes;", "main a;two special;");
            due("case " + c + " alone is turned by as many marks as the word weighs", x.turn(0), c == 63 ? 1 : 0);
            due("its marks", x.turn(3), c == 63 ? 63 : 0);
        }
    }

    private static void notMain() {
        about("How many CASES such a WORD TURNS. BAD; STATE: that DOCTOR is not MAIN.");
        for (int d = 0; d < 8; d++) {
            LearnedCount x = told("", "main " + doctor(d) + ";");
            for (int other = 0; other < 8; other++) {
                due("turns(" + other + ", 1, 63)", x.turns(other, 1, 63), other == d ? 1 : STATE);
                due("turns(" + other + ", 0, 0)", x.turns(other, 0, 0), other == d ? 64 : STATE);
                due("turns(" + other + ", 2, 0)", x.turns(other, 2, 0), BAD);
            }
            for (int set = 0; set < 64; set++) {
                due("turns by " + set, x.turns(d, 0, set), 64 >> Integer.bitCount(set));
            }
        }
    }

    // ---- doctors beside one another

    private static void sides() {
        about("SIDES of two DOCTORS: how many CASES (what 0), the same (1), the least in which they say unlike things (2; NONE). BAD: also one and the same.");
        about("SIDES: in how many CASES two DOCTORS both say something, in how many of these the same.");
        LearnedCount x = told("word a - - yes;word b - - yes;word c - - no;word d pqrstu - no;word e - pqrstu no;in 1;word h - - yes;");
        due("all", x.sides(0, 1, 0), 64);
        due("all the same", x.sides(0, 1, 1), 64);
        due("never unlike", x.sides(0, 1, 2), NONE);
        due("all unlike", x.sides(0, 2, 1), 0);
        due("from case 0 on", x.sides(0, 2, 2), 0);
        due("case 63 alone", x.sides(3, 0, 0), 1);
        due("case 63 alone", x.sides(3, 0, 2), 63);
        due("the same there", x.sides(3, 2, 1), 1);
        due("case 0 alone", x.sides(0, 4, 2), 0);
        due("never both", x.sides(3, 4, 0), 0);
        due("never both", x.sides(4, 3, 2), NONE);
        due("one who has no words", x.sides(0, 6, 0), 0);
        due("by a book", x.sides(7, 0, 1), 64);
        x.bring(1);
        due("without it", x.sides(7, 0, 0), 0);
    }

    private static void hangs() {
        about("HANGS on a DOCTOR: CASES in which another thing would be HELD, if that one said nothing.");
        for (int yes = 0; yes <= 8; yes++) {
            for (int no = 0; yes + no <= 8; no++) {
                LearnedCount x = told(yesAndNo(yes, no));
                LearnedCount y = new LearnedCount();
                for (int d = 0; d < 8; d++) {
                    String without = yesAndNo(yes, no).replace("word " + doctor(d) + " - - " + yesNo(d < yes ? 1 : 0) + ";", "");
                    library(y, without);
                    boolean turned = x.held(0, 0) != y.held(0, 0);
                    due("on " + doctor(d) + " of " + yes + " and " + no, x.hangs(d, 0), turned ? 64 : 0);
                    due("the least", x.hangs(d, 1), turned ? 0 : NONE);
                }
            }
        }
        LearnedCount x = told("word a pqrstu - yes;");
        due("case 63 alone", x.hangs(0, 0), 1);
        due("case 63 alone", x.hangs(0, 1), 63);
        rule(x, "silent yes;");
        due("silence says the same", x.hangs(0, 0), 0);
        rule(x, "silent no;");
        due("silence says another thing", x.hangs(0, 0), 1);
        LearnedCount h = told("word a - - yes;word b - - no;", "head a;");
        due("the head of a tie", h.hangs(0, 0), 64);
        due("the other of a tie", h.hangs(1, 0), 0);
        LearnedCount law = told("word a - - yes;law 1 u - no;");
        due("not where a law holds", law.hangs(0, 0), 32);
    }

    // ---- brief

    private static void brief() {
        about("BRIEF: the fewest MARKS (of several sets the least bits), so that any two CASES that are alike in them and not OPEN have the same answer.");
        for (int set = 0; set < 64; set++) {
            LearnedCount x = told("law 2 " + marks(set) + " - yes;law 1 - - no;");
            due("all of " + marks(set), x.brief(1), set);
            due("how many", x.brief(0), Integer.bitCount(set));
            LearnedCount y = told("law 2 - " + marks(set) + " yes;law 1 - - no;");
            due("none of " + marks(set), y.brief(1), set);
        }
        due("all yes", told("", "silent yes;").brief(0), 0);
        due("all no", told("", "silent no;").brief(1), 0);
        due("all open", new LearnedCount().brief(1), 0);
    }

    private static void briefOpen() {
        about("of several sets the least bits");
        for (int set = 1; set < 64; set++) {
            LearnedCount x = told("word a " + marks(set) + " - yes;word b - " + marks(set) + " no;");
            due("one mark of " + marks(set), x.brief(0), 1);
            due("the least of " + marks(set), x.brief(1), set & -set);
        }
        LearnedCount x = told("law 1 pq r yes;law 1 r pq no;law 1 p qr no;");
        due("two open marks or one", x.brief(1), 2);
        LearnedCount y = told("law 1 pq - yes;law 1 - pq yes;law 1 p q no;law 1 q p no;");
        due("both of two", y.brief(1), 3);
    }

    // ---- rules beside one another

    private static void keepAndSwap() {
        about("THE OTHER RULE becomes as THE RULE is: 1.");
        LearnedCount x = new LearnedCount();
        due("keep() at first", x.keep(), 1);
        due("swap() at first", x.swap(), 1);
        due("as told at first", x.weighs(0), 31);
        rule(x, "main h;copies 0;notes;two later;head a;silent yes;laws none;");
        due("keep()", x.keep(), 1);
        rule(x, "");
        int[] kept = {128, 0, 1, 1, 0, 1, 0};
        int[] first = {31, 2, 0, 0, NONE, NONE, 1};
        about("THE RULE and THE OTHER RULE change places: 1.");
        for (int times = 0; times < 4; times++) {
            for (int what = 0; what < 7; what++) {
                due("weighs(" + what + ") after " + times, x.weighs(what), times % 2 == 0 ? first[what] : kept[what]);
            }
            due("swap()", x.swap(), 1);
        }
        rule(x, "copies 7;");
        x.keep();
        x.swap();
        x.swap();
        due("both are as THE RULE was", x.weighs(1), 7);
        x.swap();
        due("both are as THE RULE was", x.weighs(1), 7);
    }

    private static void differ() {
        about("CASES in which unlike things are HELD by both: how many (what 0), the least (1; NONE). BAD.");
        LearnedCount x = told("word a pqrstu - yes;word b pqrstu - no;");
        due("alike", x.differ(0), 0);
        due("alike", x.differ(1), NONE);
        rule(x, "head a;");
        due("case 63 alone", x.differ(0), 1);
        due("case 63 alone", x.differ(1), 63);
        x.keep();
        rule(x, "head b;");
        due("yes and no", x.differ(0), 1);
        rule(x, "silent yes;");
        due("by unlike things, but alike", x.differ(1), 0);
        due("where one is open", x.differ(0), 63);
        rule(x, "silent no;");
        due("all", x.differ(0), 64);
        due("from case 0 on", x.differ(1), 0);
        x.swap();
        due("the other way round", x.differ(0), 64);
        x.keep();
        due("none", x.differ(0), 0);
        LearnedCount y = told("word a p - no;word b q - yes;word c u - no;", "silent no;");
        y.keep();
        rule(y, "laws none;silent no;");
        due("no by both, yes by both", y.differ(0), 0);
        rule(y, "silent yes;");
        due("where silence decides", y.differ(0), y.many(14));
    }

    // ---- sheets

    private static void sheetSizes() {
        about("A SHEET is a new row of CELLS 0: 1. BAD: also n above 40; -10 - 4.");
        for (int k = -1; k <= 4; k++) {
            for (int lane = -1; lane <= 3; lane++) {
                LearnedCount x = new LearnedCount();
                boolean bad = k < 0 || k > 3 || lane < 0 || lane > 2;
                for (int n : new int[] {0, 1, 39, 40, 41, 42, HIGH, -1, -2, LOW}) {
                    due("sheet(" + k + ", " + lane + ", " + n + ")", x.sheet(k, lane, n), bad || n > 40 ? BAD : n < 0 ? -14 : 1);
                }
                due("cells of sheet 0", x.count(4), bad || k != 0 ? NONE : 40);
            }
        }
        LearnedCount x = new LearnedCount();
        for (int n = 0; n <= 40; n++) {
            x.sheet(0, n % 3, n);
            due("cells", x.count(4), n);
            due("all are case 0", x.read(0, n % 3, 0, n, 2), n);
            due("behind the last", x.read(0, n % 3, n, 1, 2), -12);
            due("lay behind the last", x.lay(0, n, 0), -12);
            due("lay the last", x.lay(0, n - 1, 64), n == 0 ? -12 : 1);
        }
        due("a new row of cells 0", x.sheet(0, 1, 40), 1);
        due("a new row of cells 0", x.read(0, 1, 0, 40, 2), 40);
    }

    private static void sheetLanes() {
        about("SHEETS 0 to 3 are rows of BYTES (lane 0), SHORTS (1), INTS (2) with 0 to 40 CELLS, or nothing (at first).");
        LearnedCount x = new LearnedCount();
        for (int k = 0; k < 4; k++) {
            due("nothing at first", x.read(k, 0, 0, 0, 0), -11);
            for (int lane = 0; lane < 3; lane++) {
                x.sheet(k, lane, k);
                for (int as = 0; as < 3; as++) {
                    due("sheet " + k + " of lane " + lane + " as of " + as, x.read(k, as, 0, k, 2), as == lane ? k : -13);
                }
            }
        }
        due("sheets are apart", x.read(1, 2, 0, 1, 2), 1);
        due("sheets are apart", x.read(1, 2, 0, 2, 2), -12);
        LearnedCount y = new LearnedCount();
        y.sheet(0, 0, 41);
        y.sheet(0, 0, -1);
        due("a refused one stays nothing", y.lay(0, 0, 0), -11);
    }

    /** What a cell of a lane holds of a number. */
    private static int lowest(int lane, int v) {
        return lane == 0 ? (byte) v : lane == 1 ? (short) v : v;
    }

    private static void cellsBecome() {
        about("CELL i of a SHEET becomes v (its lowest bits): 1. BAD: k; -10 less the FAULT: NULL, INDEX.");
        int[] numbers = {0, 1, 63, 64, 127, 128, 129, 191, 192, 255, 256, 257, 319, 320, 32767, 32768, 32769, 65535, 65536, 65537, 65599, 65600,
            16777216, -1, -63, -64, -128, -129, -192, -193, -255, -256, -257, -32768, -32769, -65535, -65536, -65473, LOW, LOW + 1, LOW + 63, HIGH, HIGH - 63};
        for (int lane = 0; lane < 3; lane++) {
            LearnedCount x = told("law 1 p - yes;law 1 - p no;");
            x.sheet(3, lane, 2);
            for (int v : numbers) {
                int cell = lowest(lane, v);
                boolean is = cell >= 0 && cell < 64;
                due("lay(3, 1, " + v + ")", x.lay(3, 1, v), 1);
                due(v + " in lane " + lane + ", yes", x.read(3, lane, 1, 1, 0), is ? cell & 1 : -20);
                due(v + " in lane " + lane + ", no", x.read(3, lane, 1, 1, 1), is ? 1 - (cell & 1) : -20);
                due("the other cell", x.read(3, lane, 0, 1, 1), 1);
            }
            for (int i : new int[] {-1, 2, 3, 39, 40, 41, LOW, HIGH, -40}) {
                due("lay(3, " + i + ", 1)", x.lay(3, i, 1), -12);
            }
            for (int k : new int[] {-1, 4, LOW, HIGH}) {
                due("lay(" + k + ", 0, 1)", x.lay(k, 0, 1), BAD);
                due("lay(" + k + ", -1, 1)", x.lay(k, -1, 1), BAD);
            }
            due("NULL ahead of INDEX", x.lay(2, -1, 1), -11);
        }
    }

    private static void readCells() {
        about("n (0 to 40) CASES are read of a SHEET taken as of a lane, from CELL f on: how many of them are YES (what 0), NO (1), OPEN (2).");
        int[] answers = {2, 0, 1, 2};
        for (int from = 0; from <= 24; from += 24) {
            LearnedCount x = told("law 1 p q yes;law 1 q p no;");
            x.sheet(1, 1, 40);
            for (int i = 0; i < 40; i++) {
                x.lay(1, i, from + i);
            }
            for (int f = 0; f <= 40; f += 5) {
                for (int n = 0; n <= 40; n += 5) {
                    int[] due = new int[3];
                    for (int i = f; i < f + n; i++) {
                        due[answers[(from + i) & 3]]++;
                    }
                    for (int what = 0; what < 3; what++) {
                        due("read(1, 1, " + f + ", " + n + ", " + what + ")", x.read(1, 1, f, n, what), f + n > 40 ? -12 : due[what]);
                    }
                }
            }
        }
        LearnedCount x = new LearnedCount();
        x.sheet(1, 1, 40);
        due("no cell is read from anywhere", x.read(1, 1, HIGH, 0, 0), 0);
        due("no cell is read from anywhere", x.read(1, 1, LOW, 0, 0), 0);
        due("one case more than once", repeated(), 3);
    }

    private static int repeated() {
        LearnedCount x = told("law 1 p - yes;");
        x.sheet(0, 2, 3);
        for (int i = 0; i < 3; i++) {
            x.lay(0, i, 63);
        }
        return x.read(0, 2, 0, 3, 0);
    }

    private static void readFaults() {
        about("BAD: k, lane, n, what; -10 less the FAULT: NULL, CAST, then CELL by CELL INDEX; -20 less i: CELL f + i is no CASE; the first met.");
        LearnedCount x = new LearnedCount();
        x.sheet(0, 2, 40);
        for (int f : new int[] {-1, -40, -41, 40, 41, LOW, LOW + 1, HIGH, HIGH - 39, HIGH - 1}) {
            due("read from " + f, x.read(0, 2, f, 1, 2), -12);
            due("40 read from " + f, x.read(0, 2, f, 40, 2), -12);
        }
        due("the last cell", x.read(0, 2, 39, 1, 2), 1);
        due("one behind it", x.read(0, 2, 39, 2, 2), -12);
        due("all", x.read(0, 2, 0, 40, 2), 40);
        for (int bad : new int[] {-1, 64, 65, 255, LOW, HIGH}) {
            for (int i = 0; i < 40; i += 13) {
                x.lay(0, i, bad);
                due("no case in cell " + i, x.read(0, 2, 0, 40, 2), -20 - i);
                due("from it on", x.read(0, 2, i, 1, 2), -20);
                due("ahead of it", x.read(0, 2, 0, i, 2), i);
                due("behind it", x.read(0, 2, i + 1, 40 - i - 1, 2), 39 - i);
                due("it comes ahead of the end", x.read(0, 2, i, 40, 2), -20);
                x.lay(0, i, 0);
            }
        }
        x.lay(0, 39, -1);
        due("the last of 40 is no case", x.read(0, 2, 0, 40, 0), -59);
        due("another lane ahead of an index", x.read(0, 1, -1, 1, 0), -13);
        due("nothing ahead of an index", x.read(1, 1, -1, 1, 0), -11);
        due("BAD ahead of nothing", x.read(1, 1, 0, 41, 0), BAD);
        due("BAD ahead of another lane", x.read(0, 0, 0, 0, 3), BAD);
    }

    private static void machineFaults() {
        about("A FAULT is what the machine finds: 1 NULL (nothing), 2 INDEX, 3 CAST (another lane), 4 SIZE (below 0).");
        for (int k = 0; k < 4; k++) {
            LearnedCount x = new LearnedCount();
            due("NULL, lay", x.lay(k, 0, 0), -11);
            due("NULL, read", x.read(k, 0, 0, 1, 0), -11);
            due("SIZE", x.sheet(k, 0, -1), -14);
            due("still NULL", x.lay(k, 0, 0), -11);
            due("a row of no cells", x.sheet(k, 0, 0), 1);
            due("INDEX, lay", x.lay(k, 0, 0), -12);
            due("INDEX, read", x.read(k, 0, 0, 1, 0), -12);
            due("CAST", x.read(k, 1, 0, 1, 0), -13);
            due("CAST", x.read(k, 2, 0, 0, 0), -13);
            due("no fault", x.read(k, 0, 0, 0, 0), 0);
            due("a lane below", x.sheet(k, -1, 0), BAD);
            due("a lane above", x.sheet(k, 3, 0), BAD);
        }
    }

    private static void counts() {
        about("How many: 0 WORDS, 1 laws, 2 BOOKS that are BROUGHT, 3 bytes on THE TAPE, 4 CELLS of SHEET 0 (NONE: nothing); 10 and b: copies of BOOK b. BAD.");
        LearnedCount x = told("law 1 - - yes;word a - - no;note a 1;law 1 - - no;copies 6 9;copies 7 0;");
        x.sheet(1, 0, 7);
        int[] due = {4, 2, 8, 0, NONE, BAD, BAD, BAD, BAD, BAD, 2, 2, 2, 2, 2, 2, 9, 0, BAD, BAD};
        for (int what = 0; what < due.length; what++) {
            due("count(" + what + ")", x.count(what), due[what]);
        }
        x.sheet(0, 0, 0);
        due("no cells", x.count(4), 0);
        for (int what : new int[] {-1, -10, LOW, HIGH, LOW + 10, 265}) {
            due("count(" + what + ")", x.count(what), BAD);
        }
    }
}
