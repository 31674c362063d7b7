import java.io.IOException;

/** The edges of what words, doctors and laws say, sentence by sentence as the document has them. */
public final class WordEdgesTest extends Telling {
    public static void main(String[] args) throws IOException {
        wordSays();
        followersSay();
        likeSays();
        likeFollows();
        lawSays();
        rings();
        ringsThroughLikes();
        unsound();
        longestWay();
        counts();
        notesCount();
        lawsDoNotCount();
        weights();
        weightsByFollowing();
        oneThing();
        twoLater();
        twoSpecial();
        clashes();
        compareWithDocument();
        finish();
    }

    // ---- what words say

    private static void wordSays() {
        about("word: where all MARKS of the first M are so and none of the second ones, the answer is A.");
        for (int first = 0; first < 64; first += first < 8 ? 1 : 5) {
            for (int second = 0; second < 64; second++) {
                if ((first & second) != 0) {
                    continue;
                }
                LearnedCount x = told("word a " + marks(first) + " " + marks(second) + " no;");
                for (int c = 0; c < 64; c++) {
                    boolean so = (c & first) == first && (c & second) == 0;
                    due("says of " + c + " by " + marks(first) + " and " + marks(second), x.says(0, c), so ? 0 : NONE);
                }
            }
        }
    }

    private static void followersSay() {
        about("cite, against, note: as WORD N says; the other way round than it says; in a note on it, as it says.");
        for (int answer = 0; answer < 2; answer++) {
            int other = 1 - answer;
            int[] due = {answer, other, answer, answer, answer, other, other, other};
            for (int w = 0; w < 8; w++) {
                LearnedCount x = told("cite a 3;against b 3;note c 3;word d p u " + yesNo(answer) + ";against e 1;cite f 1;note g 1;against h 2;");
                for (int c = 0; c < 64; c++) {
                    due("says(" + w + ", " + c + ")", x.says(w, c), (c & 33) == 1 ? due[w] : NONE);
                }
            }
        }
    }

    private static void likeSays() {
        about("like: where all MARKS of M are so, as in the CASE of just these MARKS: what this DOCTOR's WORDS ahead of this one (not notes, in whatever BOOKS) say there, if all of them that say something say the same.");
        for (int set = 0; set < 64; set++) {
            LearnedCount x = told("word a p u yes;like a " + marks(set) + ";");
            for (int c = 0; c < 64; c++) {
                boolean so = (c & set) == set && (set & 33) == 1;
                due("like " + marks(set) + " of " + c, x.says(1, c), so ? 1 : NONE);
            }
        }
        due("nothing ahead", told("like a p;word a p - yes;").says(0, 1), NONE);
        due("of another doctor", told("word b p - yes;like a p;").says(1, 1), NONE);
        due("a note", told("word b p - yes;note a 0;like a p;").says(2, 1), NONE);
        due("a cite", told("word b p - yes;cite a 0;like a p;").says(2, 1), 1);
        due("against", told("word b p - yes;against a 0;like a p;").says(2, 1), 0);
        due("a law", told("law 3 p - yes;like a p;").says(1, 1), NONE);
        due("all the same", told("word a p - yes;word a - - yes;like a p;").says(2, 1), 1);
        due("not the same", told("word a p - yes;word a - - no;like a p;").says(2, 1), NONE);
        due("of them that say something", told("word a p - yes;word a q - no;like a p;").says(2, 1), 1);
        due("even with q", told("word a p - yes;word a q - no;like a p;").says(2, 3), 1);
        due("behind it", told("word a p - yes;like a p;word a - - no;").says(1, 1), 1);
        due("a like ahead", told("word a - p no;like a -;like a pq;").says(2, 3), 0);
        due("a like ahead that parts from a word", told("word a - p no;like a -;word a pq - yes;like a pq;").says(3, 3), NONE);
        LearnedCount books = told("in 7;copies 7 0;word h p - yes;in 0;like h p;");
        books.bring(0);
        due("in whatever books", books.says(1, 1), 1);
        due("where that one counts not", books.each(7, 1), NONE);
    }

    private static void likeFollows() {
        about("A WORD FOLLOWS: cite, against, note the one WORD; like the DOCTOR's WORDS ahead (not notes).");
        due("a word ahead in a ring", told("cite a 1;cite b 0;like a p;").words(1), 7);
        due("a word behind in a ring", told("like a p;cite a 2;cite b 1;").words(1), 6);
        due("a word of another in a ring", told("cite b 1;cite c 0;like a p;").words(1), 3);
        due("a note in a ring", told("note a 1;cite b 0;like a p;").words(1), 3);
        due("an unsound word is followed where it is not alone", told("word a - - yes;cite a 2;cite b 1;like a p;").says(3, 1), NONE);
        due("word(w, 6) of a like", told("word a - - yes;like a p;").word(1, 6), NONE);
        due("word(w, 6) of a cite", told("word a - - yes;cite a 0;").word(1, 6), 0);
    }

    private static void lawSays() {
        about("law: of a DAY (0 to 999), as word");
        LearnedCount x = told("law 0 p u yes;law 999 pq stu no;");
        for (int c = 0; c < 64; c++) {
            due("law 0 of " + c, x.says(0, c), (c & 33) == 1 ? 1 : NONE);
            due("law 999 of " + c, x.says(1, c), (c & 59) == 3 ? 0 : NONE);
        }
        due("steps", x.steps(1), 0);
    }

    // ---- rings

    private static String kind(int w) {
        return new String[] {"cite ", "against ", "note "}[w % 3];
    }

    private static void rings() {
        about("It is in a RING, if by following it comes to itself");
        for (int n = 2; n <= 24; n++) {
            StringBuilder ring = new StringBuilder();
            StringBuilder back = new StringBuilder();
            StringBuilder chain = new StringBuilder();
            for (int w = 0; w < n; w++) {
                ring.append(kind(w)).append(doctor(w % 8)).append(' ').append((w + 1) % n).append(';');
                back.append(kind(w)).append(doctor(w % 8)).append(' ').append((w + n - 1) % n).append(';');
                chain.append(w < n - 1 ? kind(w) + doctor(w % 8) + " " + (w + 1) + ";" : "word a - - yes;");
            }
            int all = (1 << n) - 1;
            for (String text : new String[] {ring.toString(), back.toString()}) {
                LearnedCount x = told(text);
                due("in a ring of " + n, x.words(0), all);
                due("unsound", x.words(1), all);
                due("steps of the first", x.steps(0), NONE);
                due("steps of the last", x.steps(n - 1), NONE);
                due("weight of the last", x.word(n - 1, 8), 0);
                due("none say anything", x.meets(0, 0) | x.meets(63, 0), 0);
            }
            LearnedCount y = told(chain.toString());
            due("no ring of " + n, y.words(0), 0);
            due("none unsound", y.words(1), 0);
            due("all say something", y.meets(63, 0), all);
        }
        LearnedCount two = told("cite a 1;cite b 0;cite c 3;cite d 4;cite e 2;word f - - yes;cite g 5;");
        due("two rings", two.words(0), 31);
        due("two rings, unsound", two.words(1), 31);
    }

    private static void ringsThroughLikes() {
        about("like the DOCTOR's WORDS ahead (not notes). It is in a RING, if by following it comes to itself");
        due("a like of the one that cites it", told("cite a 1;like a p;").words(0), 3);
        due("a note is not followed", told("note a 1;like a p;").words(0), 0);
        due("through another doctor", told("cite a 1;cite b 2;like a p;").words(0), 7);
        due("through a like of his own", told("cite a 2;like a p;like a q;").words(0), 7);
        due("a like of no ring", told("cite a 1;like b p;").words(0), 0);
        StringBuilder likes = new StringBuilder("cite a 23;");
        for (int w = 1; w < 24; w++) {
            likes.append("like a p;");
        }
        due("all 24", told(likes.toString()).words(0), 0xffffff);
        due("likes alone", told("like a -;".repeat(24)).words(0), 0);
    }

    private static void unsound() {
        about("it is UNSOUND, if it is in a RING or follows one that is UNSOUND: it says nothing.");
        StringBuilder text = new StringBuilder("cite a 1;cite b 0;");
        for (int w = 2; w < 24; w++) {
            text.append(kind(w)).append("c ").append(w - 1).append(';');
        }
        LearnedCount x = told(text.toString());
        due("in a ring", x.words(0), 3);
        due("unsound", x.words(1), 0xffffff);
        due("the last says nothing", x.says(23, 0), NONE);
        due("the last has no end", x.steps(23), NONE);
        LearnedCount y = told("cite a 1;cite b 0;word c - - yes;like c p;cite c 0;like c p;note d 5;cite c 2;like c -;cite e 7;");
        due("in a ring", y.words(0), 3);
        due("unsound", y.words(1), 1 | 2 | 16 | 32 | 64 | 256);
        due("says something", y.meets(1, 0), 4 | 8 | 128 | 512);
        due("an unsound word may count", y.words(2), 0x3ff & ~64);
    }

    private static void longestWay() {
        about("By how many steps of following a WORD is at its end (a word, a like, a law: 0). BAD; NONE: it is UNSOUND.");
        for (String last : new String[] {"word a pqrstu - no;", "like a -;"}) {
            StringBuilder text = new StringBuilder(last);
            for (int w = 1; w < 24; w++) {
                text.append(kind(w)).append("h ").append(w - 1).append(';');
            }
            LearnedCount x = told(text.toString());
            for (int w = 0; w < 24; w++) {
                due("steps(" + w + ")", x.steps(w), w);
            }
            due("steps(24)", x.steps(24), BAD);
            due("steps(-1)", x.steps(-1), BAD);
        }
        due("a law", told("law 1 - - yes;").steps(0), 0);
        due("a like behind others", told("word a - - yes;cite a 0;like a p;").steps(2), 0);
    }

    // ---- what counts

    private static void counts() {
        about("A WORD COUNTS, if it is of a MAIN DOCTOR, or its BOOK is BROUGHT and has copies (of THE RULE) or more; a note, if THE RULE has notes, too.");
        for (int least = 0; least < 10; least++) {
            for (int copies = 0; copies < 10; copies++) {
                LearnedCount x = told("in 7;word h - - yes;word a - - yes;in 0;word g - - yes;copies 7 " + copies + ";copies 0 0;", "main a;copies " + least + ";");
                int zero = least == 0 ? 4 : 0;
                due(copies + " copies of " + least, x.words(2), 2 | zero | (copies >= least ? 1 : 0));
                x.bring(128);
                due("book 7 alone", x.words(2), 2 | (copies >= least ? 1 : 0));
                x.bring(127);
                due("all but book 7", x.words(2), 2 | zero);
                x.bring(0);
                due("no book", x.words(2), 2);
            }
        }
        for (int b = 0; b < 8; b++) {
            LearnedCount x = told("in " + b + ";word h - - yes;");
            for (int other = 0; other < 8; other++) {
                x.bring(1 << other);
                due("in book " + b + " by book " + other, x.words(2), b == other ? 1 : 0);
                due("what h says", x.each(7, 0), b == other ? 1 : NONE);
            }
        }
        for (int d = 0; d < 8; d++) {
            LearnedCount x = told("word " + doctor(d) + " - - yes;");
            x.bring(0);
            due("main a to e: " + doctor(d), x.words(2), d < 5 ? 1 : 0);
        }
    }

    private static void notesCount() {
        about("a note, if THE RULE has notes, too.");
        String text = "word a - - yes;note a 0;note h 0;in 1;note h 0;copies 1 1;";
        LearnedCount x = told(text);
        due("no notes", x.words(2), 1);
        rule(x, "notes;");
        due("notes", x.words(2), 7);
        x.bring(0);
        due("notes, no books", x.words(2), 3);
        rule(x, "notes;main h;");
        due("notes of the main", x.words(2), 12);
        rule(x, "main h;");
        due("no notes of the main", x.words(2), 0);
        due("a cite of a note is no note", told("word a - - yes;note a 0;cite a 1;").words(2), 5);
    }

    private static void lawsDoNotCount() {
        about("and COUNT (2; laws: not)");
        LearnedCount x = told("law 1 - - yes;word a - - yes;in 1;law 2 - - no;", "copies 0;main abcdefgh;");
        due("words(2)", x.words(2), 2);
        due("meets(0, 0)", x.meets(0, 0), 7);
        due("meets(0, 1)", x.meets(0, 1), 3);
        due("meets(0, 2)", x.meets(0, 2), 2);
        x.bring(0);
        due("a law holds without its book", x.held(0, 0), 0);
    }

    // ---- weight

    private static void weights() {
        about("WEIGHT of a WORD: word, law: how many MARKS it has (both M); like: how many; cite, against, note: WEIGHT of the WORD that it follows (UNSOUND: 0).");
        for (int first = 0; first < 64; first++) {
            for (int second = 0; second < 64; second++) {
                if ((first & second) == 0) {
                    LearnedCount x = told("word a " + marks(first) + " " + marks(second) + " no;law 1 " + marks(second) + " " + marks(first) + " no;like b " + marks(first) + ";cite c 2;note c 0;");
                    int both = Integer.bitCount(first) + Integer.bitCount(second);
                    due("word", x.word(0, 8), both);
                    due("law", x.word(1, 8), both);
                    due("like", x.word(2, 8), Integer.bitCount(first));
                    due("cite", x.word(3, 8), Integer.bitCount(first));
                    due("note", x.word(4, 8), both);
                }
            }
        }
    }

    private static void weightsByFollowing() {
        about("cite, against, note: WEIGHT of the WORD that it follows (UNSOUND: 0).");
        StringBuilder text = new StringBuilder();
        for (int w = 0; w < 23; w++) {
            text.append(kind(w)).append("a ").append(w + 1).append(';');
        }
        LearnedCount x = told(text + "word a pqr stu no;");
        for (int w = 0; w < 24; w++) {
            due("weight of word " + w, x.word(w, 8), 6);
        }
        LearnedCount y = told("cite a 1;against b 0;note c 1;cite d 2;like b pqr;cite e 4;");
        int[] due = {0, 0, 0, 0, 3, 0};
        for (int w = 0; w < 6; w++) {
            due("unsound, weight of word " + w, y.word(w, 8), due[w]);
        }
        LearnedCount z = told("cite a 1;like a pq;cite b 0;note c 2;");
        int[] dueBehind = {0, 2, 0, 0};
        for (int w = 0; w < 4; w++) {
            due("unsound by a like, weight of word " + w, z.word(w, 8), dueBehind[w]);
        }
    }

    // ---- what a doctor says

    private static void oneThing() {
        about("What a DOCTOR says of a CASE: of the WORDS of that one that COUNT and say something there: if they say the same, that.");
        for (String two : new String[] {"none", "later", "special"}) {
            LearnedCount x = told("word a p - yes;word a - q yes;cite a 0;word b p - no;in 3;word a - - no;", "main b;two " + two + ";");
            x.bring(1);
            due("no word there", x.each(0, 2), NONE);
            due("one word", x.each(0, 0), 1);
            due("three words", x.each(0, 1), 1);
            due("of another", x.each(1, 1), 0);
            due("nothing of another", x.each(1, 0), NONE);
            due("of one who has no words", x.each(7, 1), NONE);
            x.bring(0);
            due("none counts", x.each(0, 1), NONE);
            x.bring(8);
            due("the one in book 3", x.each(0, 1), 0);
        }
    }

    /** Two words of a, told in this order with these marks; case 63 has all marks. */
    private static LearnedCount twoWords(int one, int other, int answer, String rule) {
        int first = (1 << one) - 1;
        int second = (1 << other) - 1;
        return told("word a " + marks(first) + " - " + yesNo(answer) + ";word a " + marks(second) + " - " + yesNo(1 - answer) + ";", rule);
    }

    private static void twoLater() {
        about("two later: what the one with the greatest number says");
        for (int answer = 0; answer < 2; answer++) {
            for (int one = 0; one <= 6; one++) {
                for (int other = 0; other <= 6; other++) {
                    due("none", twoWords(one, other, answer, "").each(0, 63), NONE);
                    due("none, told", twoWords(one, other, answer, "two none;").each(0, 63), NONE);
                    due("later", twoWords(one, other, answer, "two later;").each(0, 63), 1 - answer);
                    int special = one == other ? NONE : one > other ? answer : 1 - answer;
                    due("special " + one + ", " + other, twoWords(one, other, answer, "two special;").each(0, 63), special);
                }
            }
            String last = "word a - - " + yesNo(answer) + ";";
            String others = "word a - - " + yesNo(1 - answer) + ";";
            LearnedCount x = told(others.repeat(23) + last, "two later;");
            due("word 23 against 23 others", x.each(0, 0), answer);
            due("word 0 against word 1", told(last + others, "two later;").each(0, 0), 1 - answer);
        }
        LearnedCount x = told("word f - - yes;in 1;word f - - no;in 2;note f 0;in 3;law 1 - - no;", "two later;laws none;");
        due("the latest that counts", x.each(5, 0), 0);
        x.bring(1);
        due("the one that counts", x.each(5, 0), 1);
        rule(x, "two later;notes;laws none;");
        x.bring(255);
        due("a note that counts", x.each(5, 0), 1);
    }

    private static void twoSpecial() {
        about("special: what those of the greatest WEIGHT say, if they say the same; else nothing.");
        String rule = "two special;";
        due("two of three", told("word a pq - yes;word a - r yes;word a q s yes;word a p - no;", rule).each(0, 3), 1);
        due("the greatest two part", told("word a pq - yes;word a pr - no;word a - - yes;", rule).each(0, 7), NONE);
        due("the greatest two agree", told("word a pq - yes;word a pr - yes;word a p - no;word a - - no;", rule).each(0, 7), 1);
        due("marks that are not so weigh as well", told("word a - stu yes;word a pq - no;", rule).each(0, 3), 1);
        due("six marks", told("word a pqr stu yes;word a pqr st no;", rule).each(0, 7), 1);
        due("a cite weighs as its word", told("word b pqr - no;cite a 0;word a pq - yes;", rule).each(0, 7), 0);
        due("a like weighs by its own marks", told("word a - - no;like a pqr;word a pq - yes;", rule).each(0, 7), 0);
        due("a heavier one that says nothing there", told("word a p - yes;word a - - no;word a pqr - no;", rule).each(0, 3), 1);
        LearnedCount x = told("word f p - yes;word f - - yes;in 1;word f pq - no;", rule);
        due("a heavier one that counts", x.each(5, 3), 0);
        x.bring(1);
        due("a heavier one that does not", x.each(5, 3), 1);
    }

    private static void clashes() {
        about("If not, it CLASHES");
        for (String two : new String[] {"none", "later", "special"}) {
            LearnedCount x = told("word a p - yes;word a pqrstu - no;word b - - yes;word b - u yes;word c - - no;word c - pqrstu yes;note b 0;against b 0;", "two " + two + ";");
            due("in case 63 alone", x.clash(0, 0), 1);
            due("in case 63 alone", x.clash(0, 1), 63);
            due("in case 0 alone", x.clash(2, 0), 1);
            due("in case 0 alone", x.clash(2, 1), 0);
            due("with a word that is against", x.clash(1, 0), 32);
            due("with a word that is against", x.clash(1, 1), 1);
            due("of one who has no words", x.clash(7, 0), 0);
            due("of one who has no words", x.clash(7, 1), NONE);
        }
        LearnedCount all = told("word h - - yes;in 1;word h - - no;");
        due("in all cases", all.clash(7, 0), 64);
        all.bring(2);
        due("one of two counts", all.clash(7, 0), 0);
    }
}
