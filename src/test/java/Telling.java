import java.io.IOException;
import java.nio.file.Files;
import java.nio.file.Path;
import java.util.ArrayList;
import java.util.LinkedHashSet;
import java.util.List;
import java.util.Set;

/** What the tests share: telling texts to an object, and holding its answers against those that are due. */
abstract class Telling {
    static final int BAD = -1, STATE = -2, FULL = -3, NONE = -4;
    static final int LOW = Integer.MIN_VALUE, HIGH = Integer.MAX_VALUE;

    private static final int MOST_PRINTED = 60;
    private static final Set<String> sentences = new LinkedHashSet<>();
    private static String about = "";
    private static int wrong;
    private static int looked;

    /** What the next answers are about: a promise, or a sentence of the document in its own words. */
    static void about(String sentence) {
        about = sentence;
        sentences.add(sentence);
    }

    static void due(String what, long got, long want) {
        looked++;
        if (got != want && ++wrong <= MOST_PRINTED) {
            System.out.println(about + "\n    " + what + " answered " + got + ", due is " + want);
        }
    }

    static void must(String what, boolean so) {
        due(what, so ? 1 : 0, 1);
    }

    static void finish() {
        System.out.println(wrong == 0 ? looked + " answers are as due" : wrong + " answers are not as due");
        if (wrong != 0) {
            System.exit(1);
        }
    }

    /** Tells which quoted sentences the documents no longer have: they are to be read again, but nothing fails by it. */
    static void compareWithDocument() throws IOException {
        StringBuilder text = new StringBuilder();
        for (String name : new String[] {"../shared/DOC.md", "../shared/LANGUAGE.md"}) {
            text.append(Files.exists(Path.of(name)) ? Files.readString(Path.of(name)) : "").append('\n');
        }
        String documents = plain(text.toString());
        for (String sentence : sentences) {
            if (!documents.isBlank() && !documents.contains(plain(sentence))) {
                System.out.println("the document has no longer: " + sentence);
            }
        }
    }

    private static String plain(String text) {
        return text.replaceAll("\\s+", " ");
    }

    // ---- texts

    static void put(LearnedCount x, String text) {
        x.end(0);
        for (int i = 0; i < text.length(); i += 8) {
            x.feed(eight(text, i));
        }
        x.end(text.length());
    }

    /** Eight bytes of a text, and blanks behind its end. */
    static long eight(String text, int from) {
        long v = 0;
        for (int i = from; i < from + 8; i++) {
            v = v << 8 | (i < text.length() ? text.charAt(i) : ' ');
        }
        return v;
    }

    static int library(LearnedCount x, String text) {
        put(x, text);
        return x.library();
    }

    static int rule(LearnedCount x, String text) {
        put(x, text);
        return x.rule();
    }

    static LearnedCount told(String library, String rule) {
        LearnedCount x = new LearnedCount();
        must("library '" + library + "' is taken", library(x, library) >= 0);
        must("rule '" + rule + "' is taken", rule(x, rule) >= 0);
        return x;
    }

    static LearnedCount told(String library) {
        return told(library, "");
    }

    static void libraryTaken(String text, int lines) {
        LearnedCount x = new LearnedCount();
        due("library '" + text + "'", library(x, text), lines);
        due("fault() of '" + text + "'", x.fault(), 0);
        due("tape behind '" + text + "'", x.count(3), 0);
    }

    static void libraryFault(String text, int which, int place) {
        LearnedCount x = new LearnedCount();
        due("library '" + text + "'", library(x, text), -10 - place);
        due("fault() of '" + text + "'", x.fault(), which);
        due("words behind '" + text + "'", x.count(0), 0);
        due("tape behind '" + text + "'", x.count(3), 0);
    }

    static void ruleTaken(String text, int lines) {
        LearnedCount x = new LearnedCount();
        due("rule '" + text + "'", rule(x, text), lines);
        due("fault() of '" + text + "'", x.fault(), 0);
        due("tape behind '" + text + "'", x.count(3), 0);
    }

    static void ruleFault(String text, int which, int place) {
        LearnedCount x = new LearnedCount();
        due("rule '" + text + "'", rule(x, text), -10 - place);
        due("fault() of '" + text + "'", x.fault(), which);
        due("main behind '" + text + "'", x.weighs(0), 31);
        due("tape behind '" + text + "'", x.count(3), 0);
    }

    /** A set of marks as a text tells it. */
    static String marks(int bits) {
        return bits == 0 ? "-" : letters('p', bits);
    }

    static String letters(char first, int bits) {
        StringBuilder s = new StringBuilder();
        for (int i = 0; i < 26; i++) {
            if ((bits >>> i & 1) == 1) {
                s.append((char) (first + i));
            }
        }
        return s.toString();
    }

    static String yesNo(int answer) {
        return answer == 1 ? "yes" : "no";
    }

    static String doctor(int d) {
        return String.valueOf((char) ('a' + d));
    }

    // ---- all that can be seen of an object

    /**
     * Everything that an object with at most six words and sheets of at most four cells can be asked, in some 340
     * calls; the tape is told as a library at the end, so the object is used up.
     */
    static List<Long> seen(LearnedCount x) {
        List<Long> all = new ArrayList<>();
        all.add((long) x.fault());
        for (int what = 0; what < 18; what++) {
            all.add((long) x.count(what));
        }
        for (int times = 0; times < 2; times++) {
            for (int what = 0; what < 7; what++) {
                all.add((long) x.weighs(what));
            }
            for (int what : new int[] {0, 1, 10, 11, 12, 13}) {
                all.add(x.cases(what));
            }
            x.swap();
        }
        seenWords(x, all);
        seenSheets(x, all);
        int books = x.bring(0);
        all.add((long) books);
        all.add((long) x.library());
        all.add((long) x.fault());
        all.add((long) x.count(0));
        for (int what = 0; what < 8; what++) {
            all.add((long) x.word(0, what));
        }
        return all;
    }

    private static void seenWords(LearnedCount x, List<Long> all) {
        for (int w = 0; w < x.count(0); w++) {
            for (int what = 0; what < 9; what++) {
                all.add((long) x.word(w, what));
            }
            all.add((long) x.steps(w));
        }
        for (int what = 0; what < 3; what++) {
            all.add((long) x.words(what));
        }
    }

    private static void seenSheets(LearnedCount x, List<Long> all) {
        for (int k = 0; k < 4; k++) {
            for (int lane = 0; lane < 3; lane++) {
                all.add((long) x.read(k, lane, 0, 0, 0));
                for (int i = 0; i < 5 && x.read(k, lane, 0, 0, 0) == 0; i++) {
                    all.add((long) x.read(k, lane, i, 1, 0));
                    all.add((long) x.read(k, lane, i, 1, 1));
                }
            }
        }
    }
}
