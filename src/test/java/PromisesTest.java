/** Promise by promise: ordinary inputs, the edges that the document names, and wrong inputs. */
public final class PromisesTest extends Telling {
    public static void main(String[] args) {
        newObject();
        feed();
        end();
        library();
        libraryTokens();
        libraryFaults();
        rule();
        ruleFaults();
        fault();
        weighs();
        word();
        says();
        saysLike();
        words();
        meets();
        steps();
        each();
        clash();
        sides();
        hangs();
        held();
        cases();
        many();
        reckon();
        widest();
        near();
        bring();
        copies();
        argue();
        game();
        turn();
        turns();
        keep();
        swap();
        differ();
        brief();
        sheet();
        lay();
        read();
        count();
        refusedChangesNothing();
        finish();
    }

    private static void newObject() {
        about("promise 1");
        LearnedCount x = new LearnedCount();
        due("words", x.count(0), 0);
        due("laws", x.count(1), 0);
        due("books brought", x.count(2), 8);
        due("tape", x.count(3), 0);
        due("sheet 0", x.count(4), NONE);
        for (int b = 0; b < 8; b++) {
            due("copies of book " + b, x.count(10 + b), 2);
        }
        int[] rule = {31, 2, 0, 0, NONE, NONE, 1};
        for (int times = 0; times < 2; times++) {
            for (int what = 0; what < 7; what++) {
                due("weighs(" + what + ")", x.weighs(what), rule[what]);
            }
            x.swap();
        }
        due("fault()", x.fault(), 0);
        due("many(2)", x.many(2), 64);
        due("differ(0)", x.differ(0), 0);
        for (int k = 0; k < 4; k++) {
            due("lay(" + k + ", 0, 0)", x.lay(k, 0, 0), -11);
        }
        due("bring(255)", x.bring(255), 255);
    }

    private static void feed() {
        about("promise 2");
        LearnedCount x = new LearnedCount();
        for (int i = 1; i <= 50; i++) {
            due("feed", x.feed(0x2020202020202020L), 8 * i);
        }
        due("feed beyond 400", x.feed(0L), FULL);
        due("tape", x.count(3), 400);
        x.end(393);
        due("feed from 393", x.feed(0L), FULL);
        x.end(392);
        due("feed from 392", x.feed(0L), 400);
        LearnedCount y = new LearnedCount();
        y.feed(0x696e20333b696e20L);
        y.feed(0x343b202020202020L);
        due("the highest byte first", y.library(), 2);
        y.feed(-1L);
        due("a byte of 255", y.library(), -10);
        due("a byte of 255", y.fault(), 1);
    }

    private static void end() {
        about("promise 3");
        LearnedCount x = new LearnedCount();
        due("end(0)", x.end(0), 0);
        due("end(1)", x.end(1), BAD);
        due("end(-1)", x.end(-1), BAD);
        x.feed(0L);
        due("end(9)", x.end(9), BAD);
        due("end(8)", x.end(8), 8);
        due("end(3)", x.end(3), 8);
        due("end(4)", x.end(4), BAD);
        due("end(3)", x.end(3), 3);
        due("end(least)", x.end(LOW), BAD);
        due("end(greatest)", x.end(HIGH), BAD);
        due("feed behind 3", x.feed(0L), 11);
    }

    private static void library() {
        about("promise 4");
        LearnedCount x = new LearnedCount();
        due("no text", x.library(), 0);
        due("blanks", library(x, "   "), 0);
        due("all lines", library(x, "in 7;copies 7 9;word h pqrstu - yes;cite a 0;against b 1;note c 2;like d -;law 999 - u no;"), 8);
        due("words", x.count(0), 6);
        x.bring(0);
        due("a text with a fault", library(x, "word a p - yes;word"), -29);
        due("what was told stays", x.count(0), 6);
        due("so do books", x.count(2), 0);
        due("so do copies", x.count(17), 9);
        due("another library", library(x, "word a p - yes;"), 1);
        due("its words", x.count(0), 1);
        due("all books", x.count(2), 8);
        due("copies anew", x.count(17), 2);
        due("24 words", library(x, "like a -;".repeat(24)), 24);
        due("24 words and other lines", library(x, "like a -;".repeat(24) + "in 3;copies 3 0;"), 26);
        due("citing ahead", library(x, "cite a 1;word b - - no;"), 2);
        due("a library of no lines", library(x, ""), 0);
        due("has no words", x.count(0), 0);
        due("the last word's number", library(x, "like a -;".repeat(23) + "cite a 22;"), 24);
    }

    private static void libraryTokens() {
        about("promise 4");
        LearnedCount x = new LearnedCount();
        due("no blanks", library(x, "law5p-yes;in3;"), 2);
        due("day", x.word(0, 7), 5);
        due("many blanks", library(x, "  word   a  p   q  yes  ;  "), 1);
        due("figures with 0", library(x, "in 007;word a - - no;"), 2);
        due("book", x.word(0, 2), 7);
        due("day 000", library(x, "law 000 - - no;"), 1);
        due("marks in any order", library(x, "word a utq srp no;"), 1);
        due("first", x.word(0, 3), 50);
        due("second", x.word(0, 4), 13);
    }

    private static void libraryFaults() {
        about("promise 4");
        libraryFault(",", 1, 0);
        libraryFault("in 3;.", 1, 5);
        libraryFault("in 3;In 3;", 1, 5);
        libraryFault("in 0003;", 1, 3);
        libraryFault("in\t3;", 1, 2);
        libraryFault("word a" + (char) 233, 1, 6);
        libraryFault("law 1234", 1, 4);
        libraryFault("1000", 1, 0);
        libraryFault(String.valueOf((char) 0), 1, 0);
        libraryFault("word 1000", 1, 5);
        libraryFault("in", 2, 2);
        libraryFault("in  ", 2, 4);
        libraryFault("in 3", 2, 4);
        libraryFault("in 3;;", 2, 5);
        libraryFault("in 3;-", 2, 5);
        libraryFault("in 3;12", 2, 5);
        libraryFault("inn 3;", 2, 0);
        libraryFault("z", 2, 0);
        libraryFault("i 3;", 2, 0);
        libraryFault("main a;", 2, 0);
        libraryFault("in a;", 2, 3);
        libraryFault("in -;", 2, 3);
        libraryFault("in 3 3;", 2, 5);
        libraryFault("word - p - yes;", 2, 5);
        libraryFault("word 3 p - yes;", 2, 5);
        libraryFault("word a ; - yes;", 2, 7);
        libraryFault("word a p - -;", 2, 11);
        libraryFault("word a p - 1;", 2, 11);
        libraryFault("word a p - yes no;", 2, 15);
        libraryFault("law a p - yes;", 2, 4);
        libraryFault("cite a b;", 2, 7);
        libraryFault("copies a 3;", 2, 7);
        libraryFault("copies 3;", 2, 8);
        libraryFault("like a 3;", 2, 7);
        libraryFault("word", 2, 4);
        libraryFault("in 8;", 3, 3);
        libraryFault("copies 8 1;", 3, 7);
        libraryFault("copies 7 10;", 3, 9);
        libraryFault("cite a 24;", 3, 7);
        libraryFault("against a 24;", 3, 10);
        libraryFault("note a 999;", 3, 7);
        libraryFault("word i - - yes;", 3, 5);
        libraryFault("word aa - - yes;", 3, 5);
        libraryFault("word ab - - yes;", 3, 5);
        libraryFault("like a o;", 3, 7);
        libraryFault("like a pv;", 3, 7);
        libraryFault("like a pqp;", 3, 7);
        libraryFault("word a p pp yes;", 3, 9);
        libraryFault("word a p - y;", 3, 11);
        libraryFault("word a p - yess;", 3, 11);
        libraryFault("word a pq rq yes;", 4, 10);
        libraryFault("law 5 pq q maybe;", 4, 9);
        libraryFault("copies 1 1;copies 2 1;copies 1 x;", 4, 29);
        libraryFault("copies 0 1;copies 0 2;", 4, 18);
        libraryFault("like a -;".repeat(24) + "word,", 5, 216);
        libraryFault("like a -;".repeat(24) + "law 1 - - yes;", 5, 216);
        libraryFault("like a -;".repeat(24) + "wordy", 2, 216);
        libraryFault("cite a 0;", 6, 7);
        libraryFault("cite a 1;", 6, 7);
        libraryFault("word a - - yes;cite a 0;against b 4;note c 9;", 6, 34);
        libraryFault("note a 1;law 3 - - yes;", 6, 7);
        libraryFault("cite a 23;in", 2, 12);
        libraryFault("cite a 23;cite a 24;", 3, 17);
        libraryFault("word i ,", 3, 5);
    }

    private static void rule() {
        about("promise 5");
        LearnedCount x = new LearnedCount();
        due("no text", x.rule(), 0);
        due("all lines", rule(x, "laws none;main ha;copies 9;notes;two special;head h;silent yes;"), 7);
        int[] all = {129, 9, 1, 2, 7, 1, 0};
        for (int what = 0; what < 7; what++) {
            due("weighs(" + what + ")", x.weighs(what), all[what]);
        }
        due("a fault", rule(x, "main a;main"), -17);
        due("what was told stays", x.weighs(0), 129);
        due("one line", rule(x, "copies 0;"), 1);
        int[] rest = {31, 0, 0, 0, NONE, NONE, 1};
        for (int what = 0; what < 7; what++) {
            due("weighs(" + what + ") as at first", x.weighs(what), rest[what]);
        }
        due("a rule of no lines", rule(x, ""), 0);
        due("is as at first", x.weighs(1), 2);
        x.bring(3);
        rule(x, "notes ;");
        due("books stay", x.count(2), 2);
    }

    private static void ruleFaults() {
        about("promise 5");
        ruleFault(",", 1, 0);
        ruleFault("copies 0009;", 1, 7);
        ruleFault("in 3;", 2, 0);
        ruleFault("note;", 2, 0);
        ruleFault(";", 2, 0);
        ruleFault("notes", 2, 5);
        ruleFault("notes yes;", 2, 6);
        ruleFault("main -;", 2, 5);
        ruleFault("main 3;", 2, 5);
        ruleFault("main;", 2, 4);
        ruleFault("head -;", 2, 5);
        ruleFault("copies a;", 2, 7);
        ruleFault("two first;", 2, 4);
        ruleFault("two 2;", 2, 4);
        ruleFault("silent none;", 2, 7);
        ruleFault("laws special;", 2, 5);
        ruleFault("laws open;", 2, 5);
        ruleFault("two later special;", 2, 10);
        ruleFault("copies 10;", 3, 7);
        ruleFault("main abi;", 3, 5);
        ruleFault("main aba;", 3, 5);
        ruleFault("head i;", 3, 5);
        ruleFault("head ab;", 3, 5);
        for (String line : new String[] {"main a", "copies 1", "notes", "two none", "head a", "silent no", "laws later"}) {
            String name = line.split(" ")[0];
            ruleFault(line + ";" + name + ",", 4, line.length() + 1);
        }
        ruleFault("main a;notes;main b;", 4, 13);
        LearnedCount x = new LearnedCount();
        due("all doctors", rule(x, "main hgfedcba;"), 1);
        due("all doctors", x.weighs(0), 255);
    }

    private static void fault() {
        about("promise 6");
        LearnedCount x = new LearnedCount();
        due("at first", x.fault(), 0);
        library(x, "in 9;");
        due("behind a fault", x.fault(), 3);
        due("once more", x.fault(), 3);
        rule(x, "two");
        due("of a rule", x.fault(), 2);
        library(x, "in 3;");
        due("behind a library", x.fault(), 0);
        library(x, "cite a 0;");
        due("of words", x.fault(), 6);
        rule(x, "");
        due("behind a rule", x.fault(), 0);
    }

    private static void weighs() {
        about("promise 7");
        LearnedCount x = told("", "two later;silent no;laws first;head a;");
        due("two", x.weighs(3), 1);
        due("head", x.weighs(4), 0);
        due("silent", x.weighs(5), 0);
        due("laws", x.weighs(6), 2);
        rule(x, "two none;silent open;laws later;");
        due("two", x.weighs(3), 0);
        due("silent", x.weighs(5), NONE);
        due("laws", x.weighs(6), 1);
        for (int what : new int[] {-1, 7, LOW, HIGH}) {
            due("weighs(" + what + ")", x.weighs(what), BAD);
        }
    }

    private static void word() {
        about("promise 8");
        LearnedCount x = told("in 5;word h pu qs no;cite b 0;against c 1;in 2;note d 2;like e rst;law 7 - p yes;cite f 4;");
        int[][] all = {
            {0, 7, 5, 33, 10, 0, NONE, NONE, 4},
            {1, 1, 5, 0, 0, NONE, 0, NONE, 4},
            {2, 2, 5, 0, 0, NONE, 1, NONE, 4},
            {3, 3, 2, 0, 0, NONE, 2, NONE, 4},
            {4, 4, 2, 28, 0, NONE, NONE, NONE, 3},
            {5, NONE, 2, 0, 1, 1, NONE, 7, 1},
            {1, 5, 2, 0, 0, NONE, 4, NONE, 3},
        };
        for (int w = 0; w < all.length; w++) {
            for (int what = 0; what < 9; what++) {
                due("word(" + w + ", " + what + ")", x.word(w, what), all[w][what]);
            }
            due("what 9", x.word(w, 9), BAD);
            due("what -1", x.word(w, -1), BAD);
        }
        due("word(7, 0)", x.word(7, 0), BAD);
        due("word(-1, 0)", x.word(-1, 0), BAD);
        due("word(least, 0)", x.word(LOW, 0), BAD);
        due("word(greatest, 0)", x.word(HIGH, 0), BAD);
        LearnedCount y = told("cite a 1;cite b 0;note c 1;like a pq;word d pq r yes;");
        due("weight in a ring", y.word(0, 8), 0);
        due("weight in a ring", y.word(1, 8), 0);
        due("weight behind a ring", y.word(2, 8), 0);
        due("weight of an unsound like", y.word(3, 8), 2);
        due("weight of a word", y.word(4, 8), 3);
        due("new word 0 in book 0", y.word(0, 2), 0);
    }

    private static void says() {
        about("promise 9");
        LearnedCount x = told("word a p q yes;word b - - no;against c 0;cite d 2;note e 1;law 3 u p yes;against f 3;");
        for (int c = 0; c < 64; c++) {
            int first = (c & 3) == 1 ? 1 : NONE;
            due("word of " + c, x.says(0, c), first);
            due("word of all", x.says(1, c), 0);
            due("against", x.says(2, c), first == 1 ? 0 : NONE);
            due("cite", x.says(3, c), first == 1 ? 0 : NONE);
            due("note", x.says(4, c), 0);
            due("law", x.says(5, c), (c & 33) == 32 ? 1 : NONE);
            due("against against", x.says(6, c), first);
        }
        due("says(7, 0)", x.says(7, 0), BAD);
        due("says(-1, 0)", x.says(-1, 0), BAD);
        due("says(0, 64)", x.says(0, 64), BAD);
        due("says(0, -1)", x.says(0, -1), BAD);
        due("says(greatest, least)", x.says(HIGH, LOW), BAD);
        LearnedCount y = told("cite a 1;against b 0;cite c 0;word d - - yes;against e 3;");
        for (int w = 0; w < 3; w++) {
            due("unsound", y.says(w, 0), NONE);
        }
        due("sound beside it", y.says(4, 0), 0);
    }

    private static void saysLike() {
        about("promise 9");
        LearnedCount x = told("word a p - yes;note a 0;word b q - no;like a pr;like b pr;like a q;word a q - no;like a pq;like a -;in 3;word c - p no;like c -;like c p;");
        due("a case that is like", x.says(3, 5), 1);
        due("with more marks", x.says(3, 63), 1);
        due("without one of its marks", x.says(3, 1), NONE);
        due("his own words say nothing there", x.says(4, 5), NONE);
        due("nor here", x.says(5, 2), NONE);
        due("his words say two things there", x.says(7, 3), NONE);
        due("none there", x.says(8, 0), NONE);
        due("as in the case of no marks", x.says(10, 63), 0);
        due("by the like ahead alone", x.says(11, 1), 0);
        LearnedCount y = told("note a 1;word b - - yes;like a p;cite a 2;");
        due("notes are not followed", y.says(2, 1), NONE);
        due("a like with nothing ahead is sound", y.steps(2), 0);
        LearnedCount z = told("cite a 1;like a p;word b - - yes;");
        due("a ring through a like", z.words(0), 3);
        LearnedCount v = told("in 4;copies 4 0;word f p - yes;like f p;");
        due("in whatever books", v.says(1, 1), 1);
    }

    private static void words() {
        about("promise 10");
        LearnedCount x = told("cite a 1;cite b 2;note c 0;cite d 2;like d p;word e - - yes;like e p;cite f 3;law 3 - - yes;in 2;word f - - no;cite g 9;note h 5;note e 5;copies 2 3;copies 0 1;");
        due("in a ring", x.words(0), 7);
        due("unsound", x.words(1), 7 | 8 | 16 | 128);
        int main = 1 | 2 | 8 | 16 | 32 | 64;
        due("that count", x.words(2), main | 1 << 9 | 1 << 10);
        x.copies(0, 2);
        due("book 0 has copies enough", x.words(2), main | 128 | 1 << 9 | 1 << 10);
        x.bring(1);
        due("book 2 is not brought", x.words(2), main | 128);
        x.bring(4);
        rule(x, "main f;copies 3;notes;");
        due("by another rule", x.words(2), 128 | 1 << 9 | 1 << 10 | 1 << 11 | 1 << 12);
        for (int what : new int[] {-1, 3, LOW, HIGH}) {
            due("words(" + what + ")", x.words(what), BAD);
        }
        due("no words", new LearnedCount().words(2), 0);
        LearnedCount y = told("cite a 1;cite b 2;cite c 1;");
        due("a ring behind it", y.words(0), 6);
        due("unsound by it", y.words(1), 7);
        due("has no end", y.steps(0), NONE);
    }

    private static void meets() {
        about("promise 11");
        LearnedCount x = told("word a p - yes;word b p - no;law 1 p - yes;law 1 - - no;in 1;word f - - yes;note a 0;copies 1 1;");
        due("that say something", x.meets(1, 0), 63);
        due("that say yes", x.meets(1, 1), 1 | 4 | 16 | 32);
        due("that count", x.meets(1, 2), 3);
        due("elsewhere", x.meets(2, 0), 24);
        due("elsewhere yes", x.meets(2, 1), 16);
        due("elsewhere none counts", x.meets(2, 2), 0);
        due("meets(64, 0)", x.meets(64, 0), BAD);
        due("meets(-1, 0)", x.meets(-1, 0), BAD);
        due("meets(0, 3)", x.meets(0, 3), BAD);
        due("meets(0, -1)", x.meets(0, -1), BAD);
    }

    private static void steps() {
        about("promise 12");
        LearnedCount x = told("word a - - yes;cite b 0;against c 1;note d 2;like d p;law 1 - - no;cite e 7;cite e 6;like e p;cite f 4;");
        int[] all = {0, 1, 2, 3, 0, 0, NONE, NONE, NONE, 1};
        for (int w = 0; w < all.length; w++) {
            due("steps(" + w + ")", x.steps(w), all[w]);
        }
        due("steps(10)", x.steps(10), BAD);
        due("steps(-1)", x.steps(-1), BAD);
        StringBuilder chain = new StringBuilder();
        for (int w = 0; w < 23; w++) {
            chain.append("cite a ").append(w + 1).append(';');
        }
        LearnedCount y = told(chain + "word a - u no;");
        due("the weight by it", y.word(0, 8), 1);
        due("the longest way", y.steps(0), 23);
        due("says by it", y.says(0, 9), 0);
    }

    private static void each() {
        about("promise 13");
        String words = "word a p - yes;word a pq - no;word a r - no;word b - - no;in 3;word f - - yes;note b 0;word c p - yes;word c p - no;word c pq - no;word c - - yes;";
        LearnedCount x = told(words);
        due("one thing", x.each(0, 1), 1);
        due("two things", x.each(0, 3), NONE);
        due("nothing", x.each(0, 2), NONE);
        due("a note does not count", x.each(1, 1), 0);
        due("by a book", x.each(5, 0), 1);
        due("no words", x.each(7, 0), NONE);
        x.bring(247);
        due("its book is not brought", x.each(5, 0), NONE);
        x.bring(8);
        x.copies(3, 1);
        due("too few copies", x.each(5, 0), NONE);
        rule(x, "two later;");
        due("the later one", x.each(0, 3), 0);
        due("the latest of four", x.each(2, 3), 1);
        rule(x, "two special;notes;");
        due("the one of more marks", x.each(0, 3), 0);
        due("as many marks", x.each(0, 5), NONE);
        due("more marks than both", x.each(0, 7), 0);
        due("the greatest weight alone", x.each(2, 3), 0);
        due("the greatest weight says two things", x.each(2, 1), NONE);
        due("a note, by the weight of its word", x.each(1, 1), 1);
        due("each(8, 0)", x.each(8, 0), BAD);
        due("each(-1, 0)", x.each(-1, 0), BAD);
        due("each(0, 64)", x.each(0, 64), BAD);
        due("each(0, -1)", x.each(0, -1), BAD);
    }

    private static void clash() {
        about("promise 14");
        LearnedCount x = told("word a p - yes;word a q - no;word b - - yes;note b 1;in 1;word f p - yes;against f 4;");
        due("many", x.clash(0, 0), 16);
        due("the least", x.clash(0, 1), 3);
        due("none", x.clash(1, 0), 0);
        due("no least", x.clash(1, 1), NONE);
        due("by a book", x.clash(5, 0), 32);
        x.bring(0);
        due("not brought", x.clash(5, 0), 0);
        rule(x, "two later;notes;");
        due("settled, but a clash", x.clash(0, 0), 16);
        due("with notes", x.clash(1, 1), 2);
        LearnedCount y = told("word a - - yes;word a - p no;");
        due("case 0", y.clash(0, 1), 0);
        due("clash(8, 0)", x.clash(8, 0), BAD);
        due("clash(-1, 0)", x.clash(-1, 0), BAD);
        due("clash(0, 2)", x.clash(0, 2), BAD);
        due("clash(0, -1)", x.clash(0, -1), BAD);
    }

    private static void sides() {
        about("promise 15");
        LearnedCount x = told("word a p - yes;word b q - yes;word c q - no;word d - pq no;");
        due("both", x.sides(0, 1, 0), 16);
        due("the same", x.sides(0, 1, 1), 16);
        due("never unlike", x.sides(0, 1, 2), NONE);
        due("unlike", x.sides(2, 0, 1), 0);
        due("the least unlike", x.sides(2, 0, 2), 3);
        due("never both", x.sides(0, 3, 0), 0);
        LearnedCount y = told("word a - - yes;word b - p no;word c - - yes;");
        due("case 0", y.sides(0, 1, 2), 0);
        due("all cases", y.sides(0, 2, 1), 64);
        due("one and the same", x.sides(1, 1, 0), BAD);
        due("sides(8, 0, 0)", x.sides(8, 0, 0), BAD);
        due("sides(0, 8, 0)", x.sides(0, 8, 0), BAD);
        due("sides(-1, 0, 0)", x.sides(-1, 0, 0), BAD);
        due("sides(0, -1, 0)", x.sides(0, -1, 0), BAD);
        due("sides(0, 1, 3)", x.sides(0, 1, 3), BAD);
        due("sides(0, 1, -1)", x.sides(0, 1, -1), BAD);
    }

    private static void hangs() {
        about("promise 16");
        LearnedCount x = told("word a p - yes;word b q - yes;word c q - no;law 3 u - yes;", "head b;");
        due("on a", x.hangs(0, 0), 8);
        due("the least", x.hangs(0, 1), 1);
        due("on the head, who is one of two", x.hangs(1, 1), 2);
        due("on the head", x.hangs(1, 0), 16);
        due("on c alone: the head decides as well", x.hangs(2, 0), 0);
        due("none", x.hangs(2, 1), NONE);
        due("on one who says nothing", x.hangs(7, 0), 0);
        LearnedCount y = told("word a - - no;word b - - no;word c - - no;word d - - yes;word e p - yes;");
        due("three against one", y.hangs(0, 0), 32);
        due("three against two", y.hangs(0, 1), 1);
        LearnedCount z = told("word a - - yes;");
        due("case 0", z.hangs(0, 1), 0);
        due("hangs(8, 0)", x.hangs(8, 0), BAD);
        due("hangs(-1, 0)", x.hangs(-1, 0), BAD);
        due("hangs(0, 2)", x.hangs(0, 2), BAD);
        due("hangs(0, -1)", x.hangs(0, -1), BAD);
    }

    private static void dueHeld(LearnedCount x, int c, int held, int by, int yes, int no) {
        due("held(" + c + ", 0)", x.held(c, 0), held);
        due("held(" + c + ", 1)", x.held(c, 1), by);
        due("held(" + c + ", 2)", x.held(c, 2), yes);
        due("held(" + c + ", 3)", x.held(c, 3), no);
    }

    private static void held() {
        about("promise 17");
        String words = "word a p - yes;word b p - yes;word c p - no;word d q - no;word e q - yes;law 5 r - no;law 9 rs - yes;law 9 rst - no;law 2 u - yes;";
        LearnedCount x = told(words);
        dueHeld(x, 0, NONE, 0, 0, 0);
        dueHeld(x, 1, 1, 2, 2, 1);
        dueHeld(x, 2, NONE, 0, 1, 1);
        dueHeld(x, 5, 0, 1, 2, 1);
        dueHeld(x, 12, 1, 1, 0, 0);
        dueHeld(x, 28, NONE, 0, 0, 0);
        dueHeld(x, 29, 1, 2, 2, 1);
        rule(x, "head d;silent yes;laws first;");
        dueHeld(x, 2, 0, 3, 1, 1);
        dueHeld(x, 0, 1, 4, 0, 0);
        dueHeld(x, 28, 0, 1, 0, 0);
        dueHeld(x, 36, 1, 1, 0, 0);
        rule(x, "head a;");
        LearnedCount h = told("word a - - yes;word b - - no;", "head a;");
        dueHeld(h, 0, 1, 3, 1, 1);
        rule(x, "head a;silent no;laws none;");
        dueHeld(x, 2, 0, 4, 1, 1);
        dueHeld(x, 36, 0, 4, 0, 0);
        due("held(64, 0)", x.held(64, 0), BAD);
        due("held(-1, 0)", x.held(-1, 0), BAD);
        due("held(0, 4)", x.held(0, 4), BAD);
        due("held(0, -1)", x.held(0, -1), BAD);
        LearnedCount y = told("in 1;word f - - yes;word g - - yes;word a - - no;");
        dueHeld(y, 7, 1, 2, 2, 1);
        y.bring(0);
        dueHeld(y, 7, 0, 2, 0, 1);
    }

    private static final long P_SO = 0xAAAAAAAAAAAAAAAAL, Q_SO = 0xCCCCCCCCCCCCCCCCL, U_SO = 0xFFFFFFFF00000000L;

    private static void cases() {
        about("promise 18");
        LearnedCount x = told("word a p - yes;word b q - no;law 1 u - yes;", "head b;");
        due("yes", x.cases(0), U_SO | P_SO & ~Q_SO);
        due("no", x.cases(1), ~U_SO & Q_SO);
        due("open", x.cases(2), ~U_SO & ~P_SO & ~Q_SO);
        due("by nothing", x.cases(10), ~U_SO & ~P_SO & ~Q_SO);
        due("by law", x.cases(11), U_SO);
        due("by most", x.cases(12), ~U_SO & (P_SO ^ Q_SO));
        due("by the head", x.cases(13), ~U_SO & P_SO & Q_SO);
        due("by silence", x.cases(14), 0);
        rule(x, "silent no;");
        due("by silence", x.cases(14), ~U_SO & ~(P_SO ^ Q_SO));
        for (int what : new int[] {-1, 3, 9, 15, LOW, HIGH}) {
            due("cases(" + what + ")", x.cases(what), 0);
        }
    }

    private static void many() {
        about("promise 19");
        LearnedCount x = told("word a p - yes;word b q - no;law 1 u - yes;", "head b;");
        due("yes", x.many(0), 40);
        due("no", x.many(1), 16);
        due("open", x.many(2), 8);
        due("by nothing", x.many(10), 8);
        due("by law", x.many(11), 32);
        due("by most", x.many(12), 16);
        due("by the head", x.many(13), 8);
        due("by silence", x.many(14), 0);
        for (int what : new int[] {-1, 3, 9, 15, LOW, HIGH}) {
            due("many(" + what + ")", x.many(what), BAD);
        }
    }

    private static void reckon() {
        about("promise 20");
        LearnedCount x = told("word a p - yes;word b p - yes;word c p - no;");
        due("right", x.reckon(1, 2, 2, 1, 1), 0);
        due("by what", x.reckon(1, 1, 9, 9, 9), 1);
        due("yes", x.reckon(1, 2, -9, 9, 9), 2);
        due("no", x.reckon(1, 2, 2, LOW, 9), 3);
        due("answer", x.reckon(1, 2, 2, 1, 0), 4);
        due("open", x.reckon(0, 0, 0, 0, NONE), 0);
        due("open is not no", x.reckon(0, 0, 0, 0, 0), 4);
        due("reckon(64, ..)", x.reckon(64, 0, 0, 0, 0), BAD);
        due("reckon(-1, ..)", x.reckon(-1, 0, 0, 0, 0), BAD);
    }

    private static void widest() {
        about("promise 21");
        LearnedCount x = told("word a p - yes;word b p - no;word c q - yes;word d r - yes;");
        due("the most that say something", x.widest(0), 7);
        due("the lesser", x.widest(1), 1);
        LearnedCount y = told("word a p - yes;word b p - yes;word c pq - yes;word d r - yes;");
        due("none part", y.widest(0), 7);
        due("the lesser is 0", y.widest(1), 0);
        LearnedCount z = told("word a - - yes;word b - - yes;word c - - yes;word d - - no;word e u - no;");
        due("a greater lesser one", z.widest(0), 32);
        due("it", z.widest(1), 2);
        LearnedCount m = told("word a - - yes;word b - - no;");
        due("case 0", m.widest(0), 0);
        LearnedCount o = told("word a - - yes;word b - - no;word c q - no;");
        due("more that say no", o.widest(0), 2);
        LearnedCount one = told("word a q - no;");
        due("one says something", one.widest(0), 2);
        LearnedCount n = told("law 3 - - yes;in 2;copies 2 0;word f - - yes;");
        due("none say anything", n.widest(0), NONE);
        due("none say anything", n.widest(1), NONE);
        due("widest(2)", n.widest(2), BAD);
        due("widest(-1)", n.widest(-1), BAD);
    }

    private static void near() {
        about("promise 22");
        LearnedCount x = told("word a pq - yes;word b rs - no;word c u pqrs no;");
        due("itself", x.near(3, 1, 0), 3);
        due("no marks", x.near(3, 1, 1), 0);
        due("from nothing", x.near(0, 1, 0), 3);
        due("two marks", x.near(0, 1, 1), 2);
        due("one mark", x.near(0, 0, 0), 32);
        due("the least of several", x.near(15, 1, 0), 7);
        due("its mark", x.near(15, 1, 1), 1);
        due("the other side", x.near(15, 0, 0), 13);
        LearnedCount far = told("word a pqrstu - yes;word b - pqrstu no;");
        due("six marks", far.near(0, 1, 1), 6);
        due("six marks away", far.near(0, 1, 0), 63);
        due("case 0", far.near(63, 0, 0), 0);
        due("five marks", far.near(32, 1, 1), 5);
        LearnedCount y = told("word a p - yes;");
        due("none", y.near(0, 0, 0), NONE);
        due("none", y.near(0, 0, 1), NONE);
        due("near(64, 0, 0)", x.near(64, 0, 0), BAD);
        due("near(-1, 0, 0)", x.near(-1, 0, 0), BAD);
        due("near(0, 2, 0)", x.near(0, 2, 0), BAD);
        due("near(0, NONE, 0)", x.near(0, NONE, 0), BAD);
        due("near(0, 0, 2)", x.near(0, 0, 2), BAD);
        due("near(0, 0, -1)", x.near(0, 0, -1), BAD);
    }

    private static void bring() {
        about("promise 23");
        LearnedCount x = told("in 7;word h - - yes;");
        due("all", x.bring(127), 255);
        due("not book 7", x.held(0, 0), NONE);
        due("bring(256)", x.bring(256), BAD);
        due("bring(-1)", x.bring(-1), BAD);
        due("bring(128)", x.bring(128), 127);
        due("book 7", x.held(0, 0), 1);
        due("bring(0)", x.bring(0), 128);
        due("many", x.count(2), 0);
    }

    private static void copies() {
        about("promise 24");
        LearnedCount x = told("copies 3 9;in 3;word f - - yes;");
        due("copies(3, 0)", x.copies(3, 0), 9);
        due("too few", x.held(0, 0), NONE);
        due("copies(3, 2)", x.copies(3, 2), 0);
        due("enough", x.held(0, 0), 1);
        due("copies(4, 9)", x.copies(4, 9), 2);
        due("copies(3, 10)", x.copies(3, 10), BAD);
        due("copies(3, -1)", x.copies(3, -1), BAD);
        due("copies(8, 1)", x.copies(8, 1), BAD);
        due("copies(-1, 1)", x.copies(-1, 1), BAD);
        due("it stays", x.count(13), 2);
    }

    private static void argue() {
        about("promise 25");
        LearnedCount x = told("word a - - no;in 1;word f - - yes;in 4;word g - - yes;in 6;word h - - yes;in 7;word h - - yes;word f p - no;copies 4 1;");
        due("two books", x.argue(0, 1, 0), 2);
        due("the least bits", x.argue(0, 1, 1), 66);
        due("no book", x.argue(0, 0, 0), 0);
        due("no book", x.argue(0, 0, 1), 0);
        due("what is brought stays", x.count(2), 8);
        x.copies(4, 2);
        due("with more copies", x.argue(0, 1, 1), 18);
        x.copies(1, 0);
        x.copies(4, 0);
        due("never", x.argue(0, 1, 0), NONE);
        due("never", x.argue(0, 1, 1), NONE);
        x.bring(1);
        due("whatever is brought", x.argue(0, 0, 1), 0);
        due("argue(64, 0, 0)", x.argue(64, 0, 0), BAD);
        due("argue(-1, 0, 0)", x.argue(-1, 0, 0), BAD);
        due("argue(0, 2, 0)", x.argue(0, 2, 0), BAD);
        due("argue(0, NONE, 0)", x.argue(0, NONE, 0), BAD);
        due("argue(0, 0, 2)", x.argue(0, 0, 2), BAD);
        due("argue(0, 0, -1)", x.argue(0, 0, -1), BAD);
        LearnedCount y = told("in 5;word f - - yes;in 0;word g - - yes;word f p - no;", "main h;");
        due("fewer ahead of less bits", y.argue(0, 1, 1), 1);
        due("where the least book is a tie", y.argue(1, 1, 1), 32);
        due("no by one book", y.argue(1, 0, 0), NONE);
    }

    private static void game() {
        about("promise 26");
        LearnedCount x = told("in 1;word f p - yes;in 2;word g q - no;in 6;word h - - yes;in 7;word h - - yes;");
        due("the one for yes has a book", x.game(1, 0, 0), 1);
        due("the one for no has one", x.game(2, 1, 0), 0);
        due("both have", x.game(3, 1, 0), NONE);
        due("books 6 and 7 are not in it", x.game(0, 1, 0), NONE);
        due("the first turn", x.game(3, 1, 1), 0);
        due("the first turn of no", x.game(1, 0, 1), 0);
        due("books stay", x.bring(0), 255);
        due("from no books whatever is brought", x.game(1, 1, 0), 1);
        due("game(64, 0, 0)", x.game(64, 0, 0), BAD);
        due("game(-1, 0, 0)", x.game(-1, 0, 0), BAD);
        due("game(0, 2, 0)", x.game(0, 2, 0), BAD);
        due("game(0, -1, 0)", x.game(0, -1, 0), BAD);
        due("game(0, 0, 2)", x.game(0, 0, 2), BAD);
        due("game(0, 0, -1)", x.game(0, 0, -1), BAD);
    }

    private static void dueTurn(LearnedCount x, int many, int doctor, int answer, int marks) {
        due("turn(0)", x.turn(0), many);
        due("turn(1)", x.turn(1), doctor);
        due("turn(2)", x.turn(2), answer);
        due("turn(3)", x.turn(3), marks);
    }

    private static void turn() {
        about("promise 27");
        dueTurn(new LearnedCount(), 64, 0, 0, 0);
        dueTurn(told("law 1 - - yes;", "main hg;"), 0, 6, 0, 0);
        dueTurn(told("word a - - no;word b p - yes;"), 64, 0, 1, 0);
        dueTurn(told("word a - - no;word b - - no;word c - - yes;"), 64, 0, 1, 0);
        dueTurn(told("word a - - yes;word b - - no;", "main ab;two special;head b;"), 64, 1, 1, 0);
        dueTurn(told("word a p - yes;law 1 - p no;", "main a;two special;"), 32, 0, 0, 1);
        dueTurn(told("word a pq - yes;law 1 - q no;", "main a;two special;silent yes;"), 16, 0, 0, 0);
        dueTurn(told("word a pq - yes;law 1 - q no;", "main a;two later;silent yes;"), 32, 0, 0, 0);
        dueTurn(told("word a pqrstu - yes;law 1 - p no;law 1 - q no;law 1 - r no;law 1 - s no;law 1 - t no;law 1 - u no;",
                "main a;two special;"), 1, 0, 0, 63);
        dueTurn(told("word a - - yes;word b - - yes;in 1;word f - - no;word g - - no;word h u - no;", "main abc;"), 64, 2, 1, 0);
        dueTurn(told("in 1;word f - - yes;word g - - yes;word h u - no;", "main ab;"), 32, 0, 0, 0);
        due("turn(4)", new LearnedCount().turn(4), BAD);
        due("turn(-1)", new LearnedCount().turn(-1), BAD);
    }

    private static void turns() {
        about("promise 28");
        LearnedCount x = told("word a p - yes;word a pq - yes;law 1 u - no;", "two special;main ab;");
        due("in all other cases", x.turns(0, 0, 0), 16);
        due("as heavy as one", x.turns(0, 0, 1), 8);
        due("as heavy as the other", x.turns(0, 0, 3), 8);
        due("heavier than both", x.turns(0, 0, 7), 4);
        due("nothing new", x.turns(0, 1, 1), 0);
        due("against him", x.turns(1, 0, 1), 16);
        due("with him", x.turns(1, 1, 1), 0);
        due("where it is a law", x.turns(1, 1, 32), 0);
        LearnedCount y = told("word a - - yes;word b - - yes;word c - - no;word d p - no;");
        due("two against one", y.turns(4, 0, 0), 64);
        due("one more against two", y.turns(4, 1, 0), 32);
        LearnedCount z = told("word a - - yes;word b - - yes;");
        due("one against two", z.turns(4, 0, 0), 0);
        LearnedCount v = told("word a - - no;word b - - no;");
        due("one against two", v.turns(4, 1, 0), 0);
        due("not main", x.turns(2, 0, 0), STATE);
        due("turns(8, 0, 0)", x.turns(8, 0, 0), BAD);
        due("turns(-1, 0, 0)", x.turns(-1, 0, 0), BAD);
        due("turns(2, 2, 0)", x.turns(2, 2, 0), BAD);
        due("turns(2, -1, 0)", x.turns(2, -1, 0), BAD);
        due("turns(2, 0, 64)", x.turns(2, 0, 64), BAD);
        due("turns(2, 0, -1)", x.turns(2, 0, -1), BAD);
        rule(x, "two later;main ab;");
        due("the latest", x.turns(0, 0, 0), 32);
        due("words stay", x.count(0), 3);
    }

    private static void keep() {
        about("promise 29");
        LearnedCount x = told("", "main h;copies 7;notes;two special;head c;silent no;laws first;");
        due("keep()", x.keep(), 1);
        rule(x, "");
        x.swap();
        int[] all = {128, 7, 1, 2, 2, 0, 2};
        for (int what = 0; what < 7; what++) {
            due("weighs(" + what + ")", x.weighs(what), all[what]);
        }
        x.keep();
        x.swap();
        due("both are as it was", x.weighs(0), 128);
    }

    private static void swap() {
        about("promise 30");
        LearnedCount x = told("", "main h;");
        due("swap()", x.swap(), 1);
        due("the other one", x.weighs(0), 31);
        rule(x, "main g;");
        due("swap()", x.swap(), 1);
        due("back", x.weighs(0), 128);
        x.swap();
        due("the told one", x.weighs(0), 64);
        rule(x, "main");
        x.swap();
        due("a fault changes neither", x.weighs(0), 128);
    }

    private static void differ() {
        about("promise 31");
        LearnedCount x = told("word a p - yes;word b p - no;in 1;word f q - yes;");
        due("none", x.differ(0), 0);
        due("no least", x.differ(1), NONE);
        rule(x, "head b;");
        due("where the head decides", x.differ(0), 16);
        due("the least", x.differ(1), 1);
        rule(x, "copies 3;");
        due("by copies", x.differ(0), 32);
        due("the least", x.differ(1), 2);
        x.swap();
        due("either way", x.differ(0), 32);
        x.bring(0);
        due("with no books", x.differ(0), 0);
        due("differ(2)", x.differ(2), BAD);
        due("differ(-1)", x.differ(-1), BAD);
    }

    private static void brief() {
        about("promise 32");
        LearnedCount x = told("");
        due("nothing", x.brief(0), 0);
        due("nothing", x.brief(1), 0);
        library(x, "word a p - yes;");
        due("yes alone", x.brief(1), 0);
        library(x, "word a p - yes;word b - p no;");
        due("one mark", x.brief(0), 1);
        due("it", x.brief(1), 1);
        library(x, "word a pq - yes;word b - pq no;");
        due("the least bits", x.brief(1), 1);
        library(x, "law 2 tu - yes;law 1 - - no;");
        due("two marks", x.brief(0), 2);
        due("these", x.brief(1), 48);
        library(x, "law 2 p qrstu yes;law 2 u - yes;law 1 - - no;");
        due("one case among others", x.brief(1), 63);
        library(x, "law 2 pqrstu - yes;law 1 - - no;");
        due("all marks", x.brief(0), 6);
        due("all marks", x.brief(1), 63);
        due("brief(2)", x.brief(2), BAD);
        due("brief(-1)", x.brief(-1), BAD);
    }

    private static void sheet() {
        about("promise 33");
        LearnedCount x = new LearnedCount();
        due("sheet(0, 0, 0)", x.sheet(0, 0, 0), 1);
        due("no cells", x.count(4), 0);
        due("sheet(0, 2, 40)", x.sheet(0, 2, 40), 1);
        due("cells", x.count(4), 40);
        due("sheet(0, 0, 41)", x.sheet(0, 0, 41), BAD);
        due("sheet(0, 0, -1)", x.sheet(0, 0, -1), -14);
        due("sheet(0, 0, least)", x.sheet(0, 0, LOW), -14);
        due("sheet(0, 0, greatest)", x.sheet(0, 0, HIGH), BAD);
        due("sheet(4, 0, -1)", x.sheet(4, 0, -1), BAD);
        due("sheet(-1, 0, 1)", x.sheet(-1, 0, 1), BAD);
        due("sheet(0, 3, -1)", x.sheet(0, 3, -1), BAD);
        due("sheet(0, -1, 1)", x.sheet(0, -1, 1), BAD);
        due("it stays", x.count(4), 40);
        x.lay(0, 3, 64);
        x.sheet(0, 2, 5);
        due("cells of 0", x.read(0, 2, 0, 5, 2), 5);
        x.sheet(0, 1, 4);
        due("of another lane", x.read(0, 2, 0, 0, 0), -13);
        due("sheet(3, 1, 1)", x.sheet(3, 1, 1), 1);
        due("sheet 3", x.lay(3, 0, 1), 1);
    }

    private static void lay() {
        about("promise 34");
        LearnedCount x = told("word a p - yes;");
        due("nothing", x.lay(0, 0, 0), -11);
        due("nothing", x.lay(0, -1, 0), -11);
        x.sheet(0, 0, 3);
        x.sheet(1, 1, 3);
        x.sheet(2, 2, 3);
        due("lay(0, 3, 0)", x.lay(0, 3, 0), -12);
        due("lay(0, -1, 0)", x.lay(0, -1, 0), -12);
        due("lay(0, greatest, 0)", x.lay(0, HIGH, 0), -12);
        due("lay(0, least, 0)", x.lay(0, LOW, 0), -12);
        due("lay(4, 0, 0)", x.lay(4, 0, 0), BAD);
        due("lay(-1, 0, 0)", x.lay(-1, 0, 0), BAD);
        for (int k = 0; k < 3; k++) {
            due("lay", x.lay(k, 2, 0x10101), 1);
            due("its lowest bits", x.read(k, k, 2, 1, 0), k == 0 ? 1 : -20);
            due("lay", x.lay(k, 2, 0x10003), 1);
            due("its lowest bits", x.read(k, k, 2, 1, 0), k < 2 ? 1 : -20);
            due("lay", x.lay(k, 2, 255), 1);
            due("no case", x.read(k, k, 2, 1, 0), -20);
        }
        x.lay(0, 2, 0x180);
        due("a byte below 0", x.read(0, 0, 2, 1, 0), -20);
    }

    private static void read() {
        about("promise 35");
        LearnedCount x = told("word a p - yes;word b q - no;");
        due("nothing", x.read(2, 0, 0, 0, 0), -11);
        x.sheet(2, 1, 6);
        for (int i = 0; i < 6; i++) {
            x.lay(2, i, new int[] {1, 3, 2, 5, 63, 9}[i]);
        }
        due("yes", x.read(2, 1, 0, 6, 0), 3);
        due("no", x.read(2, 1, 0, 6, 1), 1);
        due("open", x.read(2, 1, 0, 6, 2), 2);
        due("some", x.read(2, 1, 2, 2, 0), 1);
        due("none", x.read(2, 1, 2, 0, 0), 0);
        due("none from anywhere", x.read(2, 1, HIGH, 0, 0), 0);
        due("none from below", x.read(2, 1, LOW, 0, 0), 0);
        due("beyond", x.read(2, 1, 0, 7, 0), -12);
        due("from beyond", x.read(2, 1, 6, 1, 0), -12);
        due("from below", x.read(2, 1, -1, 7, 0), -12);
        due("from far beyond", x.read(2, 1, HIGH, 40, 0), -12);
        due("from far below", x.read(2, 1, LOW, 40, 0), -12);
        due("another lane", x.read(2, 0, 0, 40, 0), -13);
        due("another lane", x.read(2, 2, -1, 0, 0), -13);
        x.lay(2, 4, 64);
        due("no case", x.read(2, 1, 1, 40, 0), -23);
        due("a cell that there is not, first", x.read(2, 1, 5, 2, 0), -12);
        x.lay(2, 3, -1);
        due("the first that is none", x.read(2, 1, 0, 6, 0), -23);
        due("ahead of it", x.read(2, 1, 0, 3, 0), 1);
        due("read(4, ..)", x.read(4, 1, 0, 0, 0), BAD);
        due("read(-1, ..)", x.read(-1, 1, 0, 0, 0), BAD);
        due("lane 3", x.read(2, 3, 0, 0, 0), BAD);
        due("lane -1", x.read(2, -1, 0, 0, 0), BAD);
        due("n 41", x.read(2, 1, 0, 41, 0), BAD);
        due("n -1", x.read(2, 1, 0, -1, 0), BAD);
        due("what 3", x.read(2, 1, 0, 0, 3), BAD);
        due("what -1", x.read(2, 1, 0, 0, -1), BAD);
        due("bad ahead of nothing", x.read(1, 1, 0, 0, 3), BAD);
    }

    private static void count() {
        about("promise 36");
        LearnedCount x = told("law 1 - - yes;word a - - no;law 2 - - no;copies 0 0;copies 7 9;");
        due("words", x.count(0), 3);
        due("laws", x.count(1), 2);
        x.bring(0x52);
        due("books", x.count(2), 3);
        x.feed(0L);
        due("bytes", x.count(3), 8);
        x.sheet(0, 1, 17);
        due("cells", x.count(4), 17);
        due("copies of book 0", x.count(10), 0);
        due("copies of book 1", x.count(11), 2);
        due("copies of book 7", x.count(17), 9);
        for (int what : new int[] {-1, 5, 9, 18, LOW, HIGH}) {
            due("count(" + what + ")", x.count(what), BAD);
        }
    }

    private static void refusedChangesNothing() {
        about("what is refused changes nothing");
        LearnedCount x = told("word a p - yes;in 3;word f q - no;copies 3 4;", "main ab;head b;");
        x.sheet(0, 0, 3);
        x.feed(0L);
        x.bring(256);
        x.copies(3, 10);
        x.sheet(0, 1, 41);
        x.sheet(0, 1, -1);
        x.lay(0, 3, 1);
        x.end(9);
        due("words", x.count(0), 2);
        due("books", x.count(2), 8);
        due("bytes", x.count(3), 8);
        due("cells", x.count(4), 3);
        due("copies", x.count(13), 4);
        due("a library with a fault", library(x, "word a p - no;copies 3 1;in"), -37);
        due("a rule with a fault", rule(x, "main c;head d;head"), -24);
        due("words", x.says(0, 1), 1);
        due("copies", x.count(13), 4);
        due("main", x.weighs(0), 3);
        due("head", x.weighs(4), 1);
    }
}
