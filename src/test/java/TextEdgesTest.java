import java.io.IOException;

/** The edges of texts, sentence by sentence as the document has them: the tape, tokens, faults, and promises 2 to 6. */
public final class TextEdgesTest extends Telling {
    public static void main(String[] args) throws IOException {
        tapeLength();
        tapePlaces();
        feedBytes();
        feedFull();
        endBounds();
        everyByte();
        figures();
        asLongAsMayBe();
        blanks();
        libraryNames();
        libraryLines();
        ruleNames();
        ruleLines();
        books();
        copiesOfBooks();
        wordNumbers();
        days();
        doctors();
        oneMark();
        severalMarks();
        answers();
        marksInBoth();
        copiesTwice();
        word25();
        wrongFollowing();
        followingBehindAll();
        firstFaultOfAll();
        libraryInPlace();
        libraryStays();
        librariesOneBehindAnother();
        ruleNumbers();
        mainDoctors();
        headDoctor();
        ruleWords();
        lineTwice();
        notTold();
        ruleInPlace();
        rulesOneBehindAnother();
        latestFault();
        compareWithDocument();
        finish();
    }

    // ---- the tape

    private static void tapeLength() {
        about("THE TAPE has 400 bytes, places from 0.");
        LearnedCount x = new LearnedCount();
        due("empty", x.count(3), 0);
        for (int i = 1; i <= 50; i++) {
            due("feed " + i, x.feed(eight("in 0;   ", 0)), 8 * i);
            due("bytes", x.count(3), 8 * i);
        }
        due("feed 51", x.feed(eight("in 0;   ", 0)), FULL);
        due("bytes", x.count(3), 400);
        due("all 400 bytes are read", x.library(), 50);
        due("empty again", x.count(3), 0);
        libraryTaken("in 0;".repeat(80), 80);
        libraryTaken("in 0;".repeat(79) + "in 0;", 80);
        ruleTaken(" ".repeat(394) + "notes;", 1);
    }

    private static void tapePlaces() {
        about("-10 less the place of its FAULT");
        libraryFault(",", 1, 0);
        libraryFault(" ,", 1, 1);
        libraryFault(" ".repeat(399) + ",", 1, 399);
        libraryFault(" ".repeat(399) + "z", 2, 399);
        libraryFault(" ".repeat(398) + "in", 2, 400);
        libraryFault(" ".repeat(397) + "in ", 2, 400);
        libraryFault("in 0;".repeat(79) + "in 00", 2, 400);
        ruleFault(" ".repeat(399) + ",", 1, 399);
        ruleFault(" ".repeat(395) + "notes", 2, 400);
        ruleFault(" ".repeat(399) + "9", 2, 399);
    }

    private static void feedBytes() {
        about("Eight bytes come behind THE TAPE, the highest first: how many it has.");
        for (int i = 0; i < 8; i++) {
            LearnedCount x = new LearnedCount();
            StringBuilder text = new StringBuilder("        ");
            text.setCharAt(i, ',');
            x.feed(eight(text.toString(), 0));
            due("the byte at " + i, x.library(), -10 - i);
        }
        for (long v : new long[] {0L, -1L, Long.MIN_VALUE, Long.MAX_VALUE, 0x8080808080808080L}) {
            LearnedCount x = new LearnedCount();
            due("feed(" + v + ")", x.feed(v), 8);
            due("its first byte is no token", x.library(), -10);
            due("its first byte is no token", x.fault(), 1);
        }
        LearnedCount x = new LearnedCount();
        x.feed(eight("law 2 - ", 0));
        due("behind what there is", x.feed(eight("- no;in ", 0)), 16);
        x.feed(eight("3;", 0));
        due("in their order", x.library(), 2);
    }

    private static void feedFull() {
        about("FULL: more than 400.");
        for (int n = 384; n <= 400; n++) {
            LearnedCount x = new LearnedCount();
            put(x, " ".repeat(n));
            due("feed behind " + n, x.feed(eight("in 3", 0)), n <= 392 ? n + 8 : FULL);
            due("bytes", x.count(3), n <= 392 ? n + 8 : n);
            if (n > 392) {
                due("nothing came of it", x.library(), 0);
            } else {
                due("the end of the text", x.library(), -10 - n - 8);
            }
        }
    }

    private static void endBounds() {
        about("THE TAPE keeps its first n bytes: how many it had. BAD.");
        for (int n = 0; n <= 16; n++) {
            LearnedCount x = new LearnedCount();
            put(x, "in 3;in 4;in 5;,");
            due("end(17)", x.end(17), BAD);
            due("end(-1)", x.end(-1), BAD);
            due("bytes", x.count(3), 16);
            due("end(" + n + ")", x.end(n), 16);
            due("bytes", x.count(3), n);
            due("end(" + (n + 1) + ")", x.end(n + 1), BAD);
            due("end(" + n + ") again", x.end(n), n);
            due("bytes", x.count(3), n);
        }
        LearnedCount x = new LearnedCount();
        due("of an empty tape end(0)", x.end(0), 0);
        due("of an empty tape end(1)", x.end(1), BAD);
        for (int n : new int[] {-1, 400, 401, LOW, HIGH}) {
            due("of an empty tape end(" + n + ")", x.end(n), BAD);
        }
        put(x, " ".repeat(400));
        due("of a full tape end(401)", x.end(401), BAD);
        due("of a full tape end(400)", x.end(400), 400);
        due("of a full tape end(399)", x.end(399), 400);
        put(x, "in 3;,,,");
        x.end(5);
        x.feed(eight("in 4;", 0));
        due("what was cut is gone", x.library(), 2);
    }

    // ---- tokens

    /** Which fault a sign gives where a line begins: it is no token, or one that begins no line. */
    private static int faultOf(int sign) {
        boolean name = sign >= 'a' && sign <= 'z';
        boolean figure = sign >= '0' && sign <= '9';
        return name || figure || sign == '-' || sign == ';' ? 2 : 1;
    }

    private static void everyByte() {
        about("TOKENS, each as long as may be, blanks (32) between: NAMES (a .. z), NUMBERS (1 to 3 figures), one of - ; .");
        for (int sign = 0; sign < 256; sign++) {
            String s = String.valueOf((char) sign);
            if (sign == ' ') {
                libraryTaken(s, 0);
                libraryTaken("in 3;" + s + "in 4;", 2);
                libraryTaken("in" + s + "3;", 1);
                ruleTaken(s, 0);
                continue;
            }
            libraryFault(s, faultOf(sign), 0);
            libraryFault("in 3;" + s, faultOf(sign), 5);
            behindNumber(sign, "in 3" + s + " ");
            ruleFault(s, faultOf(sign), 0);
            ruleFault("notes;" + s, faultOf(sign), 6);
        }
    }

    /** A figure makes the number of a book a longer one, and a stop ends its line. */
    private static void behindNumber(int sign, String text) {
        if (sign == ';') {
            libraryTaken(text, 1);
        } else if (sign >= '0' && sign <= '9') {
            libraryFault(text, 3, 3);
        } else {
            libraryFault(text, faultOf(sign), 4);
        }
    }

    private static void figures() {
        about("1 no TOKEN, a NUMBER that is too long (its first byte).");
        for (String n : new String[] {"0", "00", "000", "7", "07", "007", "9", "99", "999", "100"}) {
            libraryTaken("law " + n + " - - no;", 1);
        }
        for (String n : new String[] {"0000", "0999", "1000", "9999", "00000", "4294967296", "1".repeat(100)}) {
            libraryFault("law " + n + " - - no;", 1, 4);
            libraryFault("law" + n, 1, 3);
            libraryFault(n, 1, 0);
            libraryFault("word " + n, 1, 5);
            libraryFault("in 3 " + n, 1, 5);
            ruleFault("copies " + n + ";", 1, 7);
            ruleFault(n, 1, 0);
            ruleFault("main " + n, 1, 5);
        }
        libraryFault("9".repeat(400), 1, 0);
        libraryFault(" ".repeat(396) + "0000", 1, 396);
        libraryFault(" ".repeat(397) + "000", 2, 397);
        libraryFault("law 12 3 4", 2, 7);
    }

    private static void asLongAsMayBe() {
        about("each as long as may be");
        libraryTaken("law5p-yes;in3;copies3 3;", 3);
        libraryFault("worda", 2, 0);
        libraryFault("wordap-yes;", 2, 0);
        libraryFault("word ap - yes;", 3, 5);
        libraryFault("word a pyes;", 3, 7);
        libraryFault("word a p -yesin 3;", 3, 10);
        libraryFault("inn 3;", 2, 0);
        libraryFault("i n 3;", 2, 0);
        libraryFault("in 1 2;", 2, 5);
        libraryFault("in 3in 4;", 2, 4);
        libraryFault("copies 33;", 3, 7);
        libraryTaken("word a--yes;", 1);
        libraryFault("in 3;;", 2, 5);
        libraryFault("a".repeat(400), 2, 0);
        ruleTaken("copies3;notes;head h;", 3);
        ruleFault("headh;", 2, 0);
        ruleFault("main a b;", 2, 7);
    }

    private static void blanks() {
        about("blanks (32) between");
        libraryTaken("", 0);
        for (int n : new int[] {1, 2, 8, 399, 400}) {
            libraryTaken(" ".repeat(n), 0);
            ruleTaken(" ".repeat(n), 0);
        }
        for (int n = 0; n < 4; n++) {
            String gap = " ".repeat(n);
            libraryTaken(gap + "in" + gap + "3" + gap + ";" + gap, 1);
            libraryTaken("word a " + gap + "-" + gap + "-" + gap + "yes" + gap + ";" + gap, 1);
            ruleTaken(gap + "copies" + gap + "3" + gap + ";" + gap, 1);
            libraryFault("in 3" + gap, 2, 4 + n);
            libraryFault("in 3;" + gap + ",", 1, 5 + n);
            ruleFault("two" + gap, 2, 3 + n);
        }
    }

    // ---- lines

    private static final String[] LIBRARY_NAMES = {"in", "copies", "word", "cite", "against", "note", "like", "law"};
    private static final String[] RULE_NAMES = {"main", "copies", "notes", "two", "head", "silent", "laws"};

    private static boolean isOneOf(String name, String[] names) {
        for (String one : names) {
            if (one.equals(name)) {
                return true;
            }
        }
        return false;
    }

    private static String[] nearlyNamed(String name) {
        char last = name.charAt(name.length() - 1);
        return new String[] {
            name.substring(1), name.substring(0, name.length() - 1), name + last, name + "s", name + "a", "a" + name, name + name,
            name.substring(0, name.length() - 1) + (char) (last == 'a' ? 'b' : last - 1),
            (char) (name.charAt(0) - 1 < 'a' ? 'z' : name.charAt(0) - 1) + name.substring(1),
        };
    }

    private static void libraryNames() {
        about("2 a TOKEN that can not stand there (a NAME that begins no line; or the end: the length).");
        for (String name : LIBRARY_NAMES) {
            libraryFault(name, 2, name.length());
            for (String other : nearlyNamed(name)) {
                if (!isOneOf(other, LIBRARY_NAMES)) {
                    libraryFault(other + " 3;", 2, 0);
                    libraryFault("in 3; " + other + ",", 2, 6);
                }
            }
        }
        for (String name : new String[] {"main", "notes", "two", "head", "silent", "laws", "yes", "no", "a", "p", "z"}) {
            libraryFault(name + " a;", 2, 0);
        }
    }

    /**
     * Puts each kind of token, no token, and the end in each place of a line. The form has a letter a token: K a name
     * that begins a line, D a doctor, M marks, A an answer, N a number, O a name of some that go there, S the stop.
     */
    private static void eachPlace(String line, String form, boolean library) {
        String[] tokens = line.split(" ");
        StringBuilder ahead = new StringBuilder();
        for (int i = 0; i < tokens.length; i++) {
            char due = form.charAt(i);
            int place = ahead.length();
            fault(ahead + "zz", due == 'D' || due == 'M' || due == 'A' ? 3 : 2, place, library);
            fault(ahead + "zz,", due == 'D' || due == 'M' || due == 'A' ? 3 : 2, place, library);
            fault(ahead + ",", 1, place, library);
            fault(ahead + ".", 1, place, library);
            fault(ahead + "A", 1, place, library);
            fault(ahead + "1000", 1, place, library);
            fault(ahead + "0000", 1, place, library);
            if (due != 'N') {
                fault(ahead + "5", 2, place, library);
                fault(ahead + "005,", 2, place, library);
            }
            if (due != 'M') {
                fault(ahead + "-", 2, place, library);
            }
            if (due != 'S') {
                fault(ahead + ";", 2, place, library);
                fault(ahead + ";,", 2, place, library);
            }
            if (i > 0) {
                fault(ahead.toString(), 2, place, library);
                fault(ahead + "   ", 2, place + 3, library);
            }
            ahead.append(tokens[i]).append(' ');
        }
        if (library) {
            libraryTaken(line, 1);
        } else {
            ruleTaken(line, 1);
        }
    }

    private static void fault(String text, int which, int place, boolean library) {
        if (library) {
            libraryFault(text, which, place);
        } else {
            ruleFault(text, which, place);
        }
    }

    private static void libraryLines() {
        about("line: in N ; | copies N N ; | word D M M A ; | cite D N ; | against D N ; | note D N ; | like D M ; | law N M M A ;");
        eachPlace("in 3 ;", "KNS", true);
        eachPlace("copies 3 3 ;", "KNNS", true);
        eachPlace("word a p q yes ;", "KDMMAS", true);
        eachPlace("word h - - no ;", "KDMMAS", true);
        eachPlace("like d - ;", "KDMS", true);
        eachPlace("like d u ;", "KDMS", true);
        eachPlace("law 3 p q yes ;", "KNMMAS", true);
        for (String name : new String[] {"cite", "against", "note"}) {
            String line = name + " b 1 ;";
            for (String rest : new String[] {"", "zz", ",", "1000", "5", "-"}) {
                int which = rest.isEmpty() || rest.equals("5") || rest.equals("-") ? 2 : rest.equals("zz") ? 3 : 1;
                libraryFault(name + " " + rest, which, name.length() + 1);
                boolean number = rest.equals("5");
                int last = number ? name.length() + 4 : name.length() + 3;
                libraryFault(name + " b " + rest, rest.equals("zz") ? 2 : which, last);
                libraryFault(name + " b 1 " + rest, rest.equals("zz") ? 2 : which, name.length() + 5);
            }
            libraryFault(name + " b ;", 2, name.length() + 3);
            libraryFault(name + " ;", 2, name.length() + 1);
            libraryTaken(line + "word a - - yes;", 2);
        }
    }

    private static void ruleNames() {
        about("FAULTS of it likewise: 1, 2 (a NAME that begins no line, or does not go there), 3 (copies: 0 to 9; main, head: no DOCTORS), 4 a line of that NAME for the second time (it).");
        for (String name : RULE_NAMES) {
            ruleFault(name, 2, name.length());
            for (String other : nearlyNamed(name)) {
                if (!isOneOf(other, RULE_NAMES)) {
                    ruleFault(other + " a;", 2, 0);
                    ruleFault("copies 3; " + other + ",", 2, 10);
                }
            }
        }
        for (String name : new String[] {"in", "word", "cite", "against", "note", "like", "law", "yes", "open", "later", "a"}) {
            ruleFault(name + " a;", 2, 0);
        }
    }

    private static void ruleLines() {
        about("rule: { line }   line: main D ; (D: letters, each once) | copies N ; | notes ; | two later ; | two special ; | two none ; | head D ; | silent yes ; | silent no ; | silent open ; | laws later ; | laws first ; | laws none ;");
        eachPlace("main a ;", "KDS", false);
        eachPlace("main hgfedcba ;", "KDS", false);
        eachPlace("copies 3 ;", "KNS", false);
        eachPlace("notes ;", "KS", false);
        eachPlace("two later ;", "KOS", false);
        eachPlace("head h ;", "KDS", false);
        eachPlace("silent yes ;", "KOS", false);
        eachPlace("laws first ;", "KOS", false);
        ruleTaken("", 0);
        ruleTaken("laws none;silent open;head a;two none;notes;copies 0;main a;", 7);
    }

    // ---- bounds in texts

    private static void books() {
        about("in: WORDS from here on are in BOOK N (0 at first).");
        for (int n = 0; n < 1000; n++) {
            if (n < 8) {
                LearnedCount x = told("word a - - yes;in " + n + ";word a - - yes;word a - - no;");
                due("at first", x.word(0, 2), 0);
                due("from there on", x.word(1, 2), n);
                due("and further", x.word(2, 2), n);
            } else {
                libraryFault("in " + n + ";", 3, 3);
            }
        }
        LearnedCount x = told("in 7;word a - - yes;in 0;law 1 - - no;in 3;in 5;cite b 0;");
        due("one behind another", x.word(1, 2), 0);
        due("the latest", x.word(2, 2), 5);
        library(x, "word a - - yes;");
        due("0 at first in each library", x.word(0, 2), 0);
    }

    private static void copiesOfBooks() {
        about("copies: of a BOOK, how many (0 to 9; 2, if it is not told).");
        for (int n = 0; n < 1000; n++) {
            if (n > 7) {
                libraryFault("copies " + n + " 1;", 3, 7);
            }
            if (n > 9) {
                libraryFault("copies 1 " + n + ";", 3, 9);
            }
        }
        for (int b = 0; b < 8; b++) {
            for (int n = 0; n < 10; n++) {
                LearnedCount x = told("copies " + b + " " + n + ";");
                for (int other = 0; other < 8; other++) {
                    due("copies of book " + other, x.count(10 + other), other == b ? n : 2);
                }
            }
        }
    }

    private static void wordNumbers() {
        about("3 a NUMBER out of its bounds (a WORD's: 0 to 23), a NAME that is no DOCTOR, no MARKS, no answer.");
        for (String name : new String[] {"cite", "against", "note"}) {
            for (int n = 0; n < 1000; n++) {
                String text = name + " h " + n + ";";
                if (n > 23) {
                    libraryFault(text, 3, name.length() + 3);
                } else {
                    LearnedCount x = told(n == 0 ? "like a -;" + text : text + "like a -;".repeat(23));
                    due(text, x.word(n == 0 ? 1 : 0, 6), n);
                }
            }
            libraryFault(name + " a 23;" + "like a -;".repeat(22), 6, name.length() + 3);
        }
    }

    private static void days() {
        about("law: of a DAY (0 to 999), as word; it is a WORD of no DOCTOR.");
        for (int n = 0; n < 1000; n++) {
            LearnedCount x = told("law " + n + " p - no;");
            due("its day", x.word(0, 7), n);
            due("its doctor", x.word(0, 1), NONE);
            due("its answer", x.word(0, 5), 0);
        }
        libraryFault("law 1000 - - no;", 1, 4);
    }

    private static void doctors() {
        about("D: a DOCTOR (one letter).");
        for (char letter = 'a'; letter <= 'z'; letter++) {
            String[] lines = {"word " + letter + " - - yes;", "like " + letter + " -;", "cite " + letter + " 0;", "against " + letter + " 0;", "note " + letter + " 0;"};
            for (String line : lines) {
                if (letter <= 'h') {
                    LearnedCount x = told("like a -;" + line);
                    due("doctor of " + line, x.word(1, 1), letter - 'a');
                } else {
                    libraryFault(line, 3, line.indexOf(' ') + 1);
                }
                String two = line.replaceFirst(" " + letter + " ", " " + letter + "a ");
                libraryFault(two, 3, line.indexOf(' ') + 1);
                libraryFault(line.replaceFirst(" " + letter + " ", " a" + letter + " "), 3, line.indexOf(' ') + 1);
            }
        }
        libraryFault("word abcdefgh - - yes;", 3, 5);
    }

    private static void oneMark() {
        about("1 MARKS p to u (bits: p 1, q 2, r 4, s 8, t 16, u 32).");
        for (char letter = 'a'; letter <= 'z'; letter++) {
            boolean mark = letter >= 'p' && letter <= 'u';
            int bit = mark ? 1 << letter - 'p' : 0;
            if (mark) {
                LearnedCount x = told("word a " + letter + " - yes;word a - " + letter + " yes;like a " + letter + ";law 3 " + letter + " - no;law 3 - " + letter + " no;");
                for (int w = 0; w < 5; w++) {
                    due("first marks of word " + w, x.word(w, 3), w == 1 || w == 4 ? 0 : bit);
                    due("second marks of word " + w, x.word(w, 4), w == 1 || w == 4 ? bit : 0);
                }
            } else {
                libraryFault("word a " + letter + " - yes;", 3, 7);
                libraryFault("word a - " + letter + " yes;", 3, 9);
                libraryFault("like a " + letter + ";", 3, 7);
                libraryFault("law 3 " + letter + " - no;", 3, 6);
                libraryFault("law 3 - " + letter + " no;", 3, 8);
                libraryFault("like a pq" + letter + ";", 3, 7);
                libraryFault("like a " + letter + "u;", 3, 7);
            }
        }
    }

    private static void severalMarks() {
        about("M: MARKS (letters, each once at most), or - (none).");
        for (int set = 0; set < 64; set++) {
            LearnedCount x = new LearnedCount();
            due("like " + set, library(x, "like a " + marks(set) + ";"), 1);
            due("its marks", x.word(0, 3), set);
            String turned = new StringBuilder(marks(set)).reverse().toString();
            due("turned about", library(x, "law 1 - " + turned + " no;"), 1);
            due("its marks", x.word(0, 4), set);
            for (int mark = 0; mark < 6 && set != 0; mark++) {
                String more = marks(set) + letters('p', 1 << mark);
                if ((set >>> mark & 1) == 1) {
                    libraryFault("like a " + more + ";", 3, 7);
                    libraryFault("word a - " + more + " yes;", 3, 9);
                } else {
                    libraryTaken("like a " + more + ";", 1);
                }
            }
        }
        libraryFault("like a pqrstup;", 3, 7);
        libraryFault("like a --;", 2, 8);
        libraryFault("like a -p;", 2, 8);
        libraryFault("like a p-;", 2, 8);
    }

    private static void answers() {
        about("A: yes, no.");
        for (String name : new String[] {"ye", "y", "n", "yess", "nos", "es", "o", "on", "sey", "yesno", "open", "maybe", "none", "p", "a"}) {
            libraryFault("word a p - " + name + ";", 3, 11);
            libraryFault("law 1 p - " + name + ";", 3, 10);
        }
        LearnedCount x = told("word a p - yes;word a p - no;");
        due("yes", x.word(0, 5), 1);
        due("no", x.word(1, 5), 0);
    }

    private static void marksInBoth() {
        about("4 a MARK that is in both M (the second one), copies of a BOOK that were told (its NUMBER).");
        for (int first = 0; first < 64; first++) {
            for (int second = 0; second < 64; second++) {
                LearnedCount x = new LearnedCount();
                int got = library(x, "word a " + marks(first) + " " + marks(second) + " yes;");
                int place = 8 + marks(first).length();
                due(first + " and " + second, got, (first & second) == 0 ? 1 : -10 - place);
                due("fault", x.fault(), (first & second) == 0 ? 0 : 4);
            }
        }
        libraryFault("law 1 u u yes;", 4, 8);
        libraryFault("word a p qp ,", 4, 9);
        libraryFault("word a pq rq", 4, 10);
    }

    private static void copiesTwice() {
        about("copies of a BOOK that were told (its NUMBER)");
        for (int one = 0; one < 8; one++) {
            for (int other = 0; other < 8; other++) {
                String text = "copies " + one + " 2;copies " + other + " 2;";
                if (one == other) {
                    libraryFault(text, 4, 18);
                    libraryFault("copies " + one + " 2;in 3;copies " + other, 4, 23);
                    libraryFault("copies " + one + " 0;copies " + other + ",", 4, 18);
                } else {
                    libraryTaken(text, 2);
                }
            }
        }
        LearnedCount x = told("copies 3 4;");
        due("once more in the next library", library(x, "copies 3 5;"), 1);
        due("it", x.count(13), 5);
        libraryTaken("copies 0 0;copies 1 1;copies 2 2;copies 3 3;copies 4 4;copies 5 5;copies 6 6;copies 7 7;", 8);
    }

    private static void word25() {
        about("5 the 25th WORD (its first NAME).");
        String full = "like a -;".repeat(24);
        String[] lines = {"word a - - yes;", "cite a 0;", "against a 0;", "note a 0;", "like a -;", "law 1 - - yes;"};
        for (String line : lines) {
            libraryTaken("like a -;".repeat(23) + line, 24);
            libraryFault(full + line, 5, 216);
            libraryFault(full + "in 3;" + line, 5, 221);
            libraryFault(full + " " + line.substring(0, line.indexOf(' ')) + ",", 5, 217);
        }
        libraryTaken(full + "in 3;copies 3 3;", 26);
        libraryFault(full + "in 8;", 3, 219);
        libraryFault(full + "z", 2, 216);
        libraryFault(full + "5", 2, 216);
        libraryFault(full + ",", 1, 216);
        libraryFault("cite a 23;" + "like a -;".repeat(23) + "note a 0;", 5, 217);
        due("24 words", told(full).count(0), 24);
        due("the last one", told(full).word(23, 0), 4);
        due("no 25th", told(full).word(24, 0), BAD);
    }

    private static void wrongFollowing() {
        about("Behind all, LINE by LINE: 6 cite, against, note of a WORD that there is not, of a law, of itself (the WORD's NUMBER).");
        for (String name : new String[] {"cite", "against", "note"}) {
            int n = name.length();
            libraryFault(name + " a 0;", 6, n + 3);
            libraryFault(name + " a 1;", 6, n + 3);
            libraryFault(name + " a 23;", 6, n + 3);
            libraryFault(name + " a 01;", 6, n + 3);
            libraryTaken(name + " a 1;like a -;", 2);
            libraryFault(name + " a 2;like a -;", 6, n + 3);
            libraryTaken(name + " a 1;cite b 0;", 2);
            libraryFault("like a -;" + name + " a 1;", 6, n + 12);
            libraryTaken("like a -;" + name + " a 0;", 2);
            libraryFault("law 1 - - yes;" + name + " a 0;", 6, n + 17);
            libraryFault(name + " a 1;law 1 - - yes;", 6, n + 3);
            libraryFault("like a -;".repeat(23) + name + " a 23;", 6, n + 210);
            libraryTaken("like a -;".repeat(23) + name + " a 22;", 24);
            libraryTaken("word a - - no;" + name + " a 2;note b 0;", 3);
        }
    }

    private static void followingBehindAll() {
        about("Behind all, LINE by LINE");
        libraryFault("cite a 0;in", 2, 11);
        libraryFault("cite a 0;,", 1, 9);
        libraryFault("cite a 0;in 8;", 3, 12);
        libraryFault("cite a 9;copies 1 1;copies 1", 4, 27);
        libraryFault("cite a 0;" + "like a -;".repeat(23) + "law", 5, 216);
        libraryFault("like a -;cite a 5;note a 2;against a 1;", 6, 16);
        libraryFault("like a -;cite a 0;note a 2;against a 5;", 6, 25);
        libraryFault("in 3;  note   h   7  ;cite a 0;", 6, 18);
    }

    private static void firstFaultOfAll() {
        about("FAULTS, the first met as it is read (a TOKEN is read when the one before has been taken)");
        libraryFault("word i , ", 3, 5);
        libraryFault("word a v v maybe", 3, 7);
        libraryFault("word a p p maybe", 4, 9);
        libraryFault("in 8,", 3, 3);
        libraryFault("copies 8 10", 3, 7);
        libraryFault("inn,", 2, 0);
        libraryFault("word a p - yes , z", 1, 15);
        libraryFault("in 3 in 1000", 2, 5);
        libraryFault("cite a 24 ,", 3, 7);
        ruleFault("main i ,", 3, 5);
        ruleFault("copies 10 ,", 3, 7);
        ruleFault("two both ,", 2, 4);
        ruleFault("notes;notes,", 4, 6);
        ruleFault("notes;two;notes;", 2, 9);
    }

    private static void libraryInPlace() {
        about("A text that is taken is THE LIBRARY in place of what there was; all BOOKS are BROUGHT then.");
        LearnedCount x = told("word a - - yes;law 1 p - no;copies 4 9;in 4;word h - - no;", "main a;");
        x.bring(0);
        x.copies(5, 7);
        due("no lines", library(x, ""), 0);
        due("no words", x.count(0), 0);
        due("no laws", x.count(1), 0);
        due("all books", x.bring(3), 255);
        due("copies of book 4", x.count(14), 2);
        due("copies of book 5", x.count(15), 2);
        due("the rule stays", x.weighs(0), 1);
        due("all is open", x.many(2), 64);
        due("one line", library(x, "word b q - no;"), 1);
        due("all books", x.count(2), 8);
        due("one word", x.count(0), 1);
        due("of b", x.word(0, 1), 1);
        due("no second one", x.word(1, 0), BAD);
        due("24 words in place of it", library(x, "like a -;".repeat(24)), 24);
        due("one in place of these", library(x, "law 3 - - yes;"), 1);
        due("one", x.count(0), 1);
        due("no word says more", x.meets(0, 0), 1);
    }

    private static void libraryStays() {
        about("THE TAPE (empty then) tells THE LIBRARY: how many lines; -10 less the place of its FAULT: that which was told stays.");
        String[] faulty = {",", "in", "in 8;", "copies 3 1;copies 3 1;", "like b q;".repeat(25), "cite b 0;", "word b - - no;law 2 - - no;copies 0 0;in 7;cite b 1;"};
        int[] which = {1, 2, 3, 4, 5, 6, 6};
        for (int i = 0; i < faulty.length; i++) {
            LearnedCount x = told("word a p - yes;in 3;copies 3 4;copies 4 1;law 7 u - no;");
            x.bring(0x19);
            must("'" + faulty[i] + "' is refused", library(x, faulty[i]) <= -10);
            due("its fault", x.fault(), which[i]);
            due("the tape is empty", x.count(3), 0);
            due("words", x.count(0), 2);
            due("laws", x.count(1), 1);
            due("books", x.bring(0x19), 0x19);
            due("copies of book 0", x.count(10), 2);
            due("copies of book 3", x.count(13), 4);
            due("copies of book 4", x.count(14), 1);
            due("word 0", x.word(0, 3), 1);
            due("word 1", x.word(1, 2), 3);
            due("what is held", x.cases(0), 0x00000000AAAAAAAAL);
            due("no text behind it", x.library(), 0);
        }
    }

    private static final String[] LIBRARIES = {
        "", "cite a 1;against b 0;note c 1;like a pq;in 5;copies 5 0;copies 1 9;law 3 - - yes;law 4 p - no;",
        "word a pqr stu yes;word a pq - no;word a p - yes;word h - - no;word g - u no;word f q - yes;",
        "in 7;note h 1;in 3;word h p - yes;in 2;like h p;cite g 2;against f 1;word a pqrstu - no;copies 7 3;copies 3 1;",
        "law 999 - - no;law 0 p - yes;law 500 q - yes;law 500 r - no;in 4;law 7 - u yes;", "like a p;in 6;cite h 0;word b q r no;cite b 1;",
        "in 1;word c - - yes;copies 2 7;word d p p", "law 3 p - no;note c 0;",
    };

    /** Nothing of the libraries ahead is left, be they taken or refused: all that can be seen is as if it alone were told. */
    private static void librariesOneBehindAnother() {
        about("A text that is taken is THE LIBRARY in place of what there was");
        String rule = "main ab;notes;two special;head h;";
        for (String one : LIBRARIES) {
            for (String another : LIBRARIES) {
                for (String last : LIBRARIES) {
                    LearnedCount alone = told("", rule);
                    if (library(alone, last) >= 0) {
                        LearnedCount x = told("", rule);
                        library(x, one);
                        library(x, another);
                        library(x, last);
                        must("'" + last + "' behind '" + one + "' and '" + another + "'", seen(x).equals(seen(alone)));
                    }
                }
            }
        }
    }

    // ---- rules

    private static void ruleNumbers() {
        about("3 (copies: 0 to 9; main, head: no DOCTORS)");
        for (int n = 0; n < 1000; n++) {
            if (n > 9) {
                ruleFault("copies " + n + ";", 3, 7);
            } else {
                due("copies " + n, told("", "copies " + n + ";").weighs(1), n);
                due("copies 00" + n, told("", "copies 00" + n + ";").weighs(1), n);
            }
        }
    }

    private static void mainDoctors() {
        about("main D ; (D: letters, each once)");
        for (int set = 1; set < 256; set++) {
            LearnedCount x = new LearnedCount();
            String names = letters('a', set);
            due("main " + names, rule(x, "main " + names + ";"), 1);
            due("main", x.weighs(0), set);
            due("main turned about", rule(x, "main " + new StringBuilder(names).reverse() + ";"), 1);
            due("main", x.weighs(0), set);
            ruleFault("main " + names + names.charAt(0) + ";", 3, 5);
            ruleFault("main " + names + "i;", 3, 5);
        }
        for (char letter = 'i'; letter <= 'z'; letter++) {
            ruleFault("main " + letter + ";", 3, 5);
            ruleFault("main " + letter + "a;", 3, 5);
        }
        ruleFault("main ;", 2, 5);
        ruleFault("main -;", 2, 5);
    }

    private static void headDoctor() {
        about("| head D ;");
        for (char letter = 'a'; letter <= 'z'; letter++) {
            if (letter <= 'h') {
                due("head " + letter, told("", "head " + letter + ";").weighs(4), letter - 'a');
            } else {
                ruleFault("head " + letter + ";", 3, 5);
            }
            ruleFault("head " + letter + "a;", 3, 5);
            ruleFault("head a" + letter + ";", 3, 5);
        }
        ruleFault("head -;", 2, 5);
        ruleFault("head 0;", 2, 5);
    }

    private static void ruleWords() {
        about("| two later ; | two special ; | two none ; | head D ; | silent yes ; | silent no ; | silent open ; | laws later ; | laws first ; | laws none ;");
        String[] all = {"later", "special", "none", "yes", "no", "open", "first", "late", "laters", "specia", "non", "nones", "ye", "n", "ope", "firs", "a"};
        int[] two = {1, 2, 0};
        int[] laws = {1, 0, 0};
        for (int i = 0; i < all.length; i++) {
            if (i < 3) {
                due("two " + all[i], told("", "two " + all[i] + ";").weighs(3), two[i]);
            } else {
                ruleFault("two " + all[i] + ";", 2, 4);
            }
            if (i >= 3 && i < 6) {
                due("silent " + all[i], told("", "silent " + all[i] + ";").weighs(5), i == 3 ? 1 : i == 4 ? 0 : NONE);
            } else {
                ruleFault("silent " + all[i] + ";", 2, 7);
            }
            if (i == 0 || i == 2 || i == 6) {
                due("laws " + all[i], told("", "laws " + all[i] + ";").weighs(6), i == 6 ? 2 : laws[i]);
            } else {
                ruleFault("laws " + all[i] + ";", 2, 5);
            }
        }
    }

    private static void lineTwice() {
        about("4 a line of that NAME for the second time (it).");
        String[] lines = {"main a;", "copies 3;", "notes;", "two later;", "head a;", "silent yes;", "laws first;"};
        for (int i = 0; i < lines.length; i++) {
            for (int j = 0; j < lines.length; j++) {
                if (i == j) {
                    ruleFault(lines[i] + lines[j], 4, lines[i].length());
                    ruleFault(lines[i] + RULE_NAMES[i], 4, lines[i].length());
                } else {
                    ruleTaken(lines[i] + lines[j], 2);
                    ruleFault(lines[i] + lines[j] + lines[i], 4, lines[i].length() + lines[j].length());
                    ruleFault(lines[i] + lines[j] + " " + lines[j], 4, lines[i].length() + lines[j].length() + 1);
                }
            }
        }
        ruleFault("two later;two none;", 4, 10);
        LearnedCount x = told("", "main h;");
        due("once more in the next rule", rule(x, "main g;"), 1);
    }

    private static final int[] AT_FIRST = {31, 2, 0, 0, NONE, NONE, 1};

    private static void notTold() {
        about("What is not told: main a to e, copies 2, no notes, two none, no head, silent open, laws later. A text that is taken is THE RULE.");
        String[] lines = {"main h;", "copies 9;", "notes;", "two special;", "head h;", "silent no;", "laws none;"};
        int[] told = {128, 9, 1, 2, 7, 0, 0};
        for (int set = 0; set < 128; set++) {
            StringBuilder text = new StringBuilder();
            for (int i = 0; i < 7; i++) {
                text.append((set >>> i & 1) == 1 ? lines[i] : "");
            }
            LearnedCount x = told("", "main abcdefgh;copies 0;notes;two later;head a;silent yes;laws first;");
            due("rule '" + text + "'", rule(x, text.toString()), Integer.bitCount(set));
            for (int i = 0; i < 7; i++) {
                due("weighs(" + i + ") by '" + text + "'", x.weighs(i), (set >>> i & 1) == 1 ? told[i] : AT_FIRST[i]);
            }
        }
    }

    private static void ruleInPlace() {
        about("THE TAPE (empty then) tells THE RULE: likewise.");
        String[] faulty = {",", "main", "main i;", "main h;copies 0;notes;two later;head b;silent no;laws none;main a;"};
        int[] which = {1, 2, 3, 4};
        for (int i = 0; i < faulty.length; i++) {
            LearnedCount x = told("word a - - yes;", "main a;copies 9;two special;head h;silent yes;laws first;");
            x.bring(7);
            must("'" + faulty[i] + "' is refused", rule(x, faulty[i]) <= -10);
            due("its fault", x.fault(), which[i]);
            due("the tape is empty", x.count(3), 0);
            int[] stays = {1, 9, 0, 2, 7, 1, 2};
            for (int what = 0; what < 7; what++) {
                due("weighs(" + what + ")", x.weighs(what), stays[what]);
            }
            due("books", x.count(2), 3);
            due("words", x.count(0), 1);
            x.swap();
            for (int what = 0; what < 7; what++) {
                due("the other rule's weighs(" + what + ")", x.weighs(what), AT_FIRST[what]);
            }
            due("a rule of no text", x.rule(), 0);
        }
    }

    private static final String[] RULES = {
        "", "main h;copies 0;notes;two special;head a;silent yes;laws none;", "two later;silent no;", "laws first;head h;main abcdefgh;", "notes;copies 9;",
        "main g;copies 1;notes;two later;head b;silent no;laws first;main", "silent open;two none;laws later;", "copies 10;",
    };

    private static void rulesOneBehindAnother() {
        about("A text that is taken is THE RULE.");
        for (String one : RULES) {
            for (String another : RULES) {
                for (String last : RULES) {
                    LearnedCount alone = new LearnedCount();
                    if (rule(alone, last) >= 0) {
                        LearnedCount x = new LearnedCount();
                        rule(x, one);
                        rule(x, another);
                        rule(x, last);
                        for (int what = 0; what < 7; what++) {
                            due("weighs(" + what + ") by '" + last + "' behind '" + one + "' and '" + another + "'", x.weighs(what), alone.weighs(what));
                        }
                    }
                }
            }
        }
    }

    private static void latestFault() {
        about("The FAULT of the latest library(), rule(); 0.");
        LearnedCount x = new LearnedCount();
        due("at first", x.fault(), 0);
        String[] texts = {",", "in", "in 8;", "word a p p yes;", "like a -;".repeat(25), "cite a 0;"};
        for (int i = 0; i < texts.length; i++) {
            library(x, texts[i]);
            due("of library '" + texts[i] + "'", x.fault(), i + 1);
            x.feed(0L);
            x.end(0);
            x.bring(256);
            x.turns(7, 0, 0);
            due("until the next text", x.fault(), i + 1);
            rule(x, "notes;");
            due("of a rule that is taken", x.fault(), 0);
        }
        String[] rules = {",", "main", "main i;", "notes;notes;"};
        for (int i = 0; i < rules.length; i++) {
            rule(x, rules[i]);
            due("of rule '" + rules[i] + "'", x.fault(), i + 1);
            library(x, "");
            due("of a library that is taken", x.fault(), 0);
        }
    }
}
