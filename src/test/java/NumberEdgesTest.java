import java.io.IOException;
import java.util.ArrayList;
import java.util.List;

/** The bounds of every number that a call takes: the number just inside and the one just outside, and what is refused. */
public final class NumberEdgesTest extends Telling {
    private interface Call {
        long on(LearnedCount x, int[] a);
    }

    /** A call with the least and the greatest number that it takes in each place. */
    private static final class Row {
        final String promise;
        final String name;
        final Call call;
        final int[] least, greatest;
        /** What a number out of its bounds is answered. */
        final long refusal;

        Row(String promise, String name, long refusal, Call call, int... bounds) {
            this.promise = promise;
            this.name = name;
            this.refusal = refusal;
            this.call = call;
            least = new int[bounds.length / 2];
            greatest = new int[bounds.length / 2];
            for (int i = 0; i < least.length; i++) {
                least[i] = bounds[2 * i];
                greatest[i] = bounds[2 * i + 1];
            }
        }

        String told(int[] a) {
            StringBuilder s = new StringBuilder(name).append('(');
            for (int i = 0; i < a.length; i++) {
                s.append(i == 0 ? "" : ", ").append(a[i]);
            }
            return s.append(')').toString();
        }

        /** All calls in which every number is at its least or at its greatest. */
        List<int[]> corners() {
            List<int[]> all = new ArrayList<>();
            for (int set = 0; set < 1 << least.length; set++) {
                int[] a = new int[least.length];
                for (int i = 0; i < a.length; i++) {
                    a[i] = (set >>> i & 1) == 1 ? greatest[i] : least[i];
                }
                all.add(a);
            }
            return all;
        }

        /** The call in which every number is one above its least. */
        int[] oneInside() {
            int[] a = least.clone();
            for (int i = 0; i < a.length; i++) {
                a[i] = Math.min(least[i] + 1, greatest[i]);
            }
            return a;
        }

        /** All calls in which one number is out of its bounds and every other one is at an edge. */
        List<int[]> outside() {
            List<int[]> all = new ArrayList<>();
            for (int i = 0; i < least.length; i++) {
                for (int[] corner : corners()) {
                    for (int n : new int[] {least[i] - 1, greatest[i] + 1, LOW, HIGH}) {
                        if (n < least[i] || n > greatest[i]) {
                            int[] a = corner.clone();
                            a[i] = n;
                            all.add(a);
                        }
                    }
                }
            }
            return all;
        }
    }

    private static final int WORDS = 6;
    private static final int TAPE = 15;

    /** Six words of all kinds, two rules, some books, sheets of every lane and of nothing, and a text on the tape. */
    private static LearnedCount made() {
        LearnedCount x = new LearnedCount();
        library(x, "word a p - yes;cite b 0;in 3;against f 0;copies 3 4;note a 2;like a pq;law 5 stu - no;copies 5 1;");
        rule(x, "main ab;two later;head b;notes;");
        x.keep();
        rule(x, "main abc;copies 3;silent yes;laws first;");
        x.bring(0x2a);
        for (int k = 0; k < 3; k++) {
            x.sheet(k, k, 4);
            x.lay(k, 1, 1);
            x.lay(k, 2, -1);
            x.lay(k, 3, 63);
        }
        x.feed(eight("word h -", 0));
        x.feed(eight(" u no; ", 0));
        x.end(TAPE);
        return x;
    }

    private static final String WHAT_IS_REFUSED = "what is refused changes nothing (but THE TAPE, as told)";

    private static List<Row> asking() {
        List<Row> all = new ArrayList<>();
        all.add(new Row("Of THE RULE: 0 MAIN (bits), 1 copies, 2 notes (1, 0), 3 two (0 none, 1 later, 2 special), 4 head (NONE), 5 silent (1 yes, 0 no, NONE open), 6 laws (0 none, 1 later, 2 first). BAD.",
                "weighs", BAD, (x, a) -> x.weighs(a[0]), 0, 6));
        all.add(new Row("Of a WORD: 0 kind (0 word, 1 cite, 2 against, 3 note, 4 like, 5 law), 1 DOCTOR (NONE: a law), 2 BOOK, 3 MARKS of the first M, 4 of the second, 5 answer (NONE), 6 the WORD that it follows (NONE), 7 DAY (NONE), 8 WEIGHT. BAD.",
                "word", BAD, (x, a) -> x.word(a[0], a[1]), 0, WORDS - 1, 0, 8));
        all.add(new Row("What a WORD says of a CASE: 1, 0, NONE. BAD.", "says", BAD, (x, a) -> x.says(a[0], a[1]), 0, WORDS - 1, 0, 63));
        all.add(new Row("WORDS that are in a RING (what 0, bits), UNSOUND (1), that COUNT (2). BAD.", "words", BAD, (x, a) -> x.words(a[0]), 0, 2));
        all.add(new Row("WORDS that say something of a CASE (what 0, bits), YES (1), and COUNT (2; laws: not). BAD.",
                "meets", BAD, (x, a) -> x.meets(a[0], a[1]), 0, 63, 0, 2));
        all.add(new Row("By how many steps of following a WORD is at its end (a word, a like, a law: 0). BAD; NONE: it is UNSOUND.",
                "steps", BAD, (x, a) -> x.steps(a[0]), 0, WORDS - 1));
        all.add(new Row("What a DOCTOR says of a CASE: 1, 0, NONE. BAD.", "each", BAD, (x, a) -> x.each(a[0], a[1]), 0, 7, 0, 63));
        all.add(new Row("CLASHES of a DOCTOR: how many CASES (what 0), the least (1; NONE). BAD.", "clash", BAD, (x, a) -> x.clash(a[0], a[1]), 0, 7, 0, 1));
        all.add(new Row("HANGS: how many CASES (what 0), the least (1; NONE). BAD.", "hangs", BAD, (x, a) -> x.hangs(a[0], a[1]), 0, 7, 0, 1));
        all.add(new Row("Of a CASE: 0 what is HELD (1, 0, NONE: OPEN), 1 by what (0 to 4), 2 how many DOCTORS say YES, 3 NO. BAD.",
                "held", BAD, (x, a) -> x.held(a[0], a[1]), 0, 63, 0, 3));
        all.add(new Row("How many CASES of these. BAD.", "many", BAD, (x, a) -> x.many(a[0]), 0, 2));
        all.add(new Row("How many CASES of these. BAD.", "many", BAD, (x, a) -> x.many(a[0]), 10, 14));
        all.add(new Row("BAD: the CASE.", "reckon", BAD, (x, a) -> x.reckon(a[0], 0, 0, 0, 0), 0, 63));
        all.add(new Row("BAD; NONE: none say anything of any.", "widest", BAD, (x, a) -> x.widest(a[0]), 0, 1));
        all.add(new Row("The nearest CASE in which an answer is HELD to a CASE (fewest MARKS that are otherwise, of several the least; what 0), how many MARKS (1). BAD; NONE.",
                "near", BAD, (x, a) -> x.near(a[0], a[1], a[2]), 0, 63, 0, 1, 0, 1));
        all.add(new Row("FEWEST BOOKS by which an answer is HELD in a CASE (what is BROUGHT stays): how many (what 0), these (1, bits). BAD; NONE.",
                "argue", BAD, (x, a) -> x.argue(a[0], a[1], a[2]), 0, 63, 0, 1, 0, 1));
        all.add(new Row("THE GAME of a CASE, who begins (1: the one for YES, 0: NO): what is HELD at its end (what 0; NONE: OPEN), the best first turn (1: a BOOK, the least; 6: pass, if no BOOK is as good). BAD.",
                "game", BAD, (x, a) -> x.game(a[0], a[1], a[2]), 0, 63, 0, 1, 0, 1));
        all.add(new Row("BAD; NONE: none is MAIN.", "turn", BAD, (x, a) -> x.turn(a[0]), 0, 3));
        all.add(new Row("How many CASES such a WORD TURNS. BAD; STATE: that DOCTOR is not MAIN.",
                "turns", BAD, (x, a) -> x.turns(a[0], a[1], a[2]), 0, 7, 0, 1, 0, 63));
        all.add(new Row("CASES in which unlike things are HELD by both: how many (what 0), the least (1; NONE). BAD.", "differ", BAD, (x, a) -> x.differ(a[0]), 0, 1));
        all.add(new Row("BRIEF: how many MARKS (what 0), these (1, bits). BAD.", "brief", BAD, (x, a) -> x.brief(a[0]), 0, 1));
        all.add(new Row("BAD: k, lane, n, what", "read", BAD, (x, a) -> x.read(a[0], a[1], 0, a[2], a[3]), 0, 3, 0, 2, 0, 40, 0, 2));
        all.add(new Row("How many: 0 WORDS, 1 laws, 2 BOOKS that are BROUGHT, 3 bytes on THE TAPE, 4 CELLS of SHEET 0 (NONE: nothing); 10 and b: copies of BOOK b. BAD.",
                "count", BAD, (x, a) -> x.count(a[0]), 0, 4));
        all.add(new Row("10 and b: copies of BOOK b. BAD.", "count", BAD, (x, a) -> x.count(a[0]), 10, 17));
        return all;
    }

    private static List<Row> changing() {
        List<Row> all = new ArrayList<>();
        all.add(new Row("THE TAPE keeps its first n bytes: how many it had. BAD.", "end", BAD, (x, a) -> x.end(a[0]), 0, TAPE));
        all.add(new Row("BOOKS (bits) are BROUGHT: those that were. BAD.", "bring", BAD, (x, a) -> x.bring(a[0]), 0, 255));
        all.add(new Row("Copies of a BOOK become n (0 to 9): what they were. BAD.", "copies", BAD, (x, a) -> x.copies(a[0], a[1]), 0, 7, 0, 9));
        all.add(new Row("A SHEET is a new row of CELLS 0: 1. BAD: also n above 40; -10 - 4.", "sheet", BAD, (x, a) -> x.sheet(a[0], a[1], 0), 0, 3, 0, 2));
        all.add(new Row("BAD: k; -10 less the FAULT: NULL, INDEX.", "lay", BAD, (x, a) -> x.lay(a[0], 0, 1), 0, 3));
        return all;
    }

    public static void main(String[] args) throws IOException {
        insideAndOutside();
        casesDoctorsBooks();
        yesAndNo();
        casesOutside();
        sidesOfOne();
        askingChangesNothing();
        askedBefore();
        refusedChangesNothing();
        otherRefusalsChangeNothing();
        noWords();
        fullOfWords();
        badAheadOfAll();
        calls512();
        twoObjects();
        compareWithDocument();
        finish();
    }

    private static void insideAndOutside() {
        List<Row> rows = asking();
        rows.addAll(changing());
        for (Row row : rows) {
            about(row.promise);
            for (int[] a : row.corners()) {
                must(row.told(a) + " is taken", row.call.on(made(), a) != row.refusal);
            }
            LearnedCount x = made();
            for (int[] a : row.outside()) {
                due(row.told(a), row.call.on(x, a), row.refusal);
            }
        }
    }

    private static void casesDoctorsBooks() {
        about("CASES 0 to 63: which MARKS are so. DOCTORS a to h (0 to 7). BOOKS 0 to 7.");
        for (int c = -3; c < 68; c++) {
            boolean bad = c < 0 || c > 63;
            LearnedCount x = made();
            String what = "case " + c + " of ";
            due(what + "says", x.says(0, c), bad ? BAD : (c & 1) == 1 ? 1 : NONE);
            must(what + "meets", x.meets(c, 0) == BAD == bad);
            must(what + "each", x.each(0, c) == BAD == bad);
            must(what + "held", x.held(c, 0) == BAD == bad);
            must(what + "reckon", x.reckon(c, 0, 0, 0, 0) == BAD == bad);
            due(what + "near", x.near(c, 1, 1), bad ? BAD : x.held(c, 0) == 1 ? 0 : 1);
            must(what + "argue", x.argue(c, 1, 0) == BAD == bad);
            must(what + "game", x.game(c, 1, 0) == BAD == bad);
            due(what + "turns", x.turns(0, 1, c) == BAD ? 1 : 0, bad ? 1 : 0);
            x.lay(2, 0, c);
            due(what + "read", x.read(2, 2, 0, 1, 0) == -20 ? 1 : 0, bad ? 1 : 0);
        }
        for (int n = -3; n < 12; n++) {
            boolean bad = n < 0 || n > 7;
            LearnedCount x = made();
            must("each of doctor " + n, x.each(n, 0) == BAD == bad);
            must("clash of doctor " + n, x.clash(n, 0) == BAD == bad);
            must("hangs of doctor " + n, x.hangs(n, 0) == BAD == bad);
            must("sides of doctor " + n, x.sides(n, n == 1 ? 2 : 1, 0) == BAD == bad);
            must("turns of doctor " + n, x.turns(n, 0, 0) == BAD == bad);
            must("copies of book " + n, x.copies(n, 1) == BAD == bad);
            must("count of book " + n, x.count(10 + n) == BAD == bad);
            if (n >= 0) {
                must("bring of book " + n, x.bring(1 << n) == BAD == bad);
            }
        }
    }

    private static void yesAndNo() {
        about("YES is 1, NO is 0.");
        LearnedCount x = told("word a p - yes;word a - p no;law 1 pq - yes;law 1 q p no;", "silent yes;");
        due("answer yes", x.word(0, 5), 1);
        due("answer no", x.word(1, 5), 0);
        due("says yes", x.says(0, 1), 1);
        due("says no", x.says(1, 0), 0);
        due("a doctor says yes", x.each(0, 1), 1);
        due("a doctor says no", x.each(0, 0), 0);
        due("yes is held", x.held(3, 0), 1);
        due("no is held", x.held(2, 0), 0);
        due("the nearest yes", x.near(2, 1, 0), 3);
        due("the nearest no", x.near(3, 0, 0), 2);
        due("silent yes", x.weighs(5), 1);
        due("the game's end", x.game(0, 1, 0), 0);
        rule(x, "silent no;");
        due("silent no", x.weighs(5), 0);
    }

    private static void casesOutside() {
        about("CASES, as bits: 0 YES is HELD, 1 NO, 2 OPEN; 10 and k: by what (0 to 4). BAD 0 (what).");
        LearnedCount x = told("law 1 pq - yes;word a r - no;word b s - yes;word c s - no;", "head b;");
        long all = 0;
        long by = 0;
        for (int what = -3; what < 20; what++) {
            boolean inside = what >= 0 && what <= 2 || what >= 10 && what <= 14;
            due("many(" + what + ")", x.many(what), inside ? Long.bitCount(x.cases(what)) : BAD);
            if (!inside) {
                due("cases(" + what + ")", x.cases(what), 0);
            } else if (what <= 2) {
                due("a case is of one kind", all & x.cases(what), 0);
                all |= x.cases(what);
                must("cases(" + what + ") has some", x.cases(what) != 0);
            } else {
                due("a case is held by one thing", by & x.cases(what), 0);
                by |= x.cases(what);
                must("cases(" + what + ") has some", what == 14 || x.cases(what) != 0);
            }
        }
        due("every case is of a kind", all, -1);
        due("every case is held by something", by, -1);
        for (int what : new int[] {LOW, HIGH, LOW + 10, 256, 266, -10}) {
            due("cases(" + what + ")", x.cases(what), 0);
            due("many(" + what + ")", x.many(what), BAD);
        }
        rule(x, "silent no;");
        due("by silence", x.many(14), Long.bitCount(x.cases(14)));
        must("by silence", x.cases(14) != 0);
        due("none is open", x.cases(2), 0);
        due("none is held by nothing", x.cases(10), 0);
    }

    private static void sidesOfOne() {
        about("BAD: also one and the same.");
        for (int d = -1; d <= 8; d++) {
            LearnedCount x = told("word a - - yes;word h p - no;");
            for (int e = -1; e <= 8; e++) {
                boolean inside = d >= 0 && d <= 7 && e >= 0 && e <= 7 && d != e;
                boolean both = inside && d + e == 7 && d * e == 0;
                due("sides(" + d + ", " + e + ", 0)", x.sides(d, e, 0), !inside ? BAD : both ? 32 : 0);
                due("sides(" + d + ", " + e + ", 1)", x.sides(d, e, 1), inside ? 0 : BAD);
                due("sides(" + d + ", " + e + ", 2)", x.sides(d, e, 2), !inside ? BAD : both ? 1 : NONE);
                due("sides(" + d + ", " + e + ", 3)", x.sides(d, e, 3), BAD);
                due("sides(" + d + ", " + e + ", -1)", x.sides(d, e, -1), BAD);
            }
        }
        LearnedCount x = told("word a - - yes;word h p - no;");
        for (int n : new int[] {LOW, HIGH}) {
            due("sides(" + n + ", 0, 0)", x.sides(n, 0, 0), BAD);
            due("sides(0, " + n + ", 0)", x.sides(0, n, 0), BAD);
            due("sides(0, 1, " + n + ")", x.sides(0, 1, n), BAD);
            due("sides(" + n + ", " + n + ", 0)", x.sides(n, n, 0), BAD);
        }
    }

    private static void askingChangesNothing() {
        about("Nothing is promised beyond the answers and state changes described above");
        List<Long> before = seen(made());
        for (Row row : asking()) {
            for (int[] a : row.corners()) {
                LearnedCount x = made();
                row.call.on(x, a);
                must(row.told(a) + " changes nothing", seen(x).equals(before));
            }
        }
        LearnedCount x = made();
        x.sides(0, 1, 0);
        x.cases(0);
        x.fault();
        must("sides, cases, fault change nothing", seen(x).equals(before));
    }

    private static List<Call> changes() {
        List<Call> all = new ArrayList<>();
        all.add((x, a) -> 0);
        all.add((x, a) -> x.bring(0));
        all.add((x, a) -> x.bring(255));
        all.add((x, a) -> x.copies(3, 2));
        all.add((x, a) -> x.swap());
        all.add((x, a) -> x.keep());
        all.add((x, a) -> rule(x, "main abcdefgh;two special;notes;head a;"));
        all.add((x, a) -> library(x, "word b p - no;word c - - no;word a pq - yes;in 3;note a 2;like a pq;law 5 tu - yes;"));
        return all;
    }

    /** What was asked before, by whatever rule and books, has no part in an answer. */
    private static void askedBefore() {
        about("the same calls always give the same answers");
        for (Row row : asking()) {
            List<int[]> some = row.corners();
            some.add(row.oneInside());
            for (int[] a : some) {
                for (Call change : changes()) {
                    LearnedCount x = made();
                    change.on(x, a);
                    long due = row.call.on(x, a);
                    LearnedCount y = made();
                    askMuch(y);
                    row.call.on(y, a);
                    change.on(y, a);
                    due(row.told(a) + " as asked before", row.call.on(y, a), due);
                    askMuch(y);
                    due(row.told(a) + " as asked again", row.call.on(y, a), due);
                }
            }
        }
    }

    private static void askMuch(LearnedCount x) {
        x.turn(0);
        x.argue(1, 1, 0);
        x.game(1, 1, 0);
        x.differ(0);
    }

    private static void refusedChangesNothing() {
        about(WHAT_IS_REFUSED);
        List<Long> before = seen(made());
        List<Row> rows = asking();
        rows.addAll(changing());
        for (Row row : rows) {
            for (int[] a : row.outside()) {
                LearnedCount x = made();
                row.call.on(x, a);
                must(row.told(a) + " changes nothing", seen(x).equals(before));
            }
        }
    }

    private static void refused(String what, Call call, long refusal) {
        LearnedCount x = made();
        due(what, call.on(x, new int[0]), refusal);
        must(what + " changes nothing", seen(x).equals(seen(made())));
    }

    private static void otherRefusalsChangeNothing() {
        about(WHAT_IS_REFUSED);
        refused("sheet(0, 1, 41)", (x, a) -> x.sheet(0, 1, 41), BAD);
        refused("sheet(0, 1, greatest)", (x, a) -> x.sheet(0, 1, HIGH), BAD);
        refused("sheet(0, 1, -1)", (x, a) -> x.sheet(0, 1, -1), -14);
        refused("sheet(3, 1, least)", (x, a) -> x.sheet(3, 1, LOW), -14);
        refused("lay(3, 0, 1)", (x, a) -> x.lay(3, 0, 1), -11);
        refused("lay(0, 4, 1)", (x, a) -> x.lay(0, 4, 1), -12);
        refused("lay(2, -1, 1)", (x, a) -> x.lay(2, -1, 1), -12);
        refused("read(3, 0, 0, 1, 0)", (x, a) -> x.read(3, 0, 0, 1, 0), -11);
        refused("read(0, 1, 0, 1, 0)", (x, a) -> x.read(0, 1, 0, 1, 0), -13);
        refused("read(0, 0, 0, 4, 0)", (x, a) -> x.read(0, 0, 0, 4, 0), -22);
        refused("read(0, 0, 4, 1, 0)", (x, a) -> x.read(0, 0, 4, 1, 0), -12);
        refused("turns(7, 0, 0)", (x, a) -> x.turns(7, 0, 0), STATE);
        refused("end(16)", (x, a) -> x.end(16), BAD);
        about("FULL: more than 400.");
        LearnedCount full = made();
        LearnedCount fuller = made();
        for (int i = 0; i < 48; i++) {
            full.feed(eight("", 0));
            fuller.feed(eight("", 0));
        }
        due("feed behind 399", fuller.feed(-1L), FULL);
        must("it changes nothing", seen(fuller).equals(seen(full)));
    }

    private static void noWords() {
        about("No WORDS; THE RULE, THE OTHER RULE as told at first; all BOOKS are BROUGHT; SHEETS of nothing.");
        LearnedCount x = new LearnedCount();
        for (int w : new int[] {-1, 0, 1, 23, 24, LOW, HIGH}) {
            due("word(" + w + ", 0)", x.word(w, 0), BAD);
            due("says(" + w + ", 0)", x.says(w, 0), BAD);
            due("steps(" + w + ")", x.steps(w), BAD);
        }
        for (int what = 0; what < 3; what++) {
            due("words(" + what + ")", x.words(what), 0);
            due("meets(63, " + what + ")", x.meets(63, what), 0);
        }
        for (int d = 0; d < 8; d++) {
            due("each(" + d + ", 0)", x.each(d, 0), NONE);
            due("clash(" + d + ", 0)", x.clash(d, 0), 0);
            due("clash(" + d + ", 1)", x.clash(d, 1), NONE);
            due("hangs(" + d + ", 0)", x.hangs(d, 0), 0);
            due("hangs(" + d + ", 1)", x.hangs(d, 1), NONE);
        }
        due("sides(0, 7, 0)", x.sides(0, 7, 0), 0);
        due("sides(0, 7, 2)", x.sides(0, 7, 2), NONE);
        due("held(63, 0)", x.held(63, 0), NONE);
        due("held(63, 1)", x.held(63, 1), 0);
        due("cases(2)", x.cases(2), -1);
        due("cases(10)", x.cases(10), -1);
        due("reckon(0, 0, 0, 0, NONE)", x.reckon(0, 0, 0, 0, NONE), 0);
        due("widest(0)", x.widest(0), NONE);
        due("widest(1)", x.widest(1), NONE);
        for (int answer = 0; answer < 2; answer++) {
            due("near(0, " + answer + ", 0)", x.near(0, answer, 0), NONE);
            due("argue(0, " + answer + ", 0)", x.argue(0, answer, 0), NONE);
            due("game(0, " + answer + ", 0)", x.game(0, answer, 0), NONE);
            due("game(0, " + answer + ", 1)", x.game(0, answer, 1), 0);
        }
        due("turn(0)", x.turn(0), 64);
        due("turns(4, 1, 63)", x.turns(4, 1, 63), 1);
        due("turns(5, 1, 63)", x.turns(5, 1, 63), STATE);
        due("brief(0)", x.brief(0), 0);
        due("differ(1)", x.differ(1), NONE);
        for (int k = 0; k < 4; k++) {
            for (int lane = 0; lane < 3; lane++) {
                due("read(" + k + ", " + lane + ", 0, 0, 0)", x.read(k, lane, 0, 0, 0), -11);
            }
            due("lay(" + k + ", 0, 0)", x.lay(k, 0, 0), -11);
        }
    }

    private static void fullOfWords() {
        about("WORDS (24) are numbered as they are told; each is in a BOOK.");
        StringBuilder text = new StringBuilder();
        for (int w = 0; w < 24; w++) {
            text.append(w < 8 ? "word " + doctor(w) + " - - yes;" : "like " + doctor(w % 8) + " -;");
        }
        LearnedCount x = told(text.toString());
        due("words", x.count(0), 24);
        due("that count", x.words(2), 0xffffff);
        due("that say something", x.meets(0, 0), 0xffffff);
        due("that say yes", x.meets(0, 1), 0xffffff);
        for (int w = 0; w < 24; w++) {
            due("doctor of word " + w, x.word(w, 1), w % 8);
            due("kind of word " + w, x.word(w, 0), w < 8 ? 0 : 4);
            due("says(" + w + ", 63)", x.says(w, 63), 1);
        }
        due("word(24, 0)", x.word(24, 0), BAD);
        due("says(24, 0)", x.says(24, 0), BAD);
        due("steps(24)", x.steps(24), BAD);
        due("doctors that say yes", x.held(63, 2), 8);
        for (int n = 1; n < 24; n++) {
            LearnedCount y = told("law 1 - - no;".repeat(n));
            due("count(0) of " + n, y.count(0), n);
            due("count(1) of " + n, y.count(1), n);
            due("the last of " + n, y.word(n - 1, 0), 5);
            due("behind the last of " + n, y.word(n, 0), BAD);
            due("says behind the last of " + n, y.says(n, 0), BAD);
            due("steps behind the last of " + n, y.steps(n), BAD);
        }
    }

    private static void badAheadOfAll() {
        about("Answers: BAD -1 (a number is not as told, there is no such WORD, DOCTOR, CASE, BOOK, SHEET), STATE -2 (as told), FULL -3, NONE -4 (there is none), the first that fits");
        LearnedCount x = new LearnedCount();
        due("turns of one who is not main, no answer", x.turns(7, 2, 0), BAD);
        due("turns of one who is not main, no marks", x.turns(7, 0, 64), BAD);
        due("turns of one who is not main", x.turns(7, 1, 63), STATE);
        due("turns of no doctor", x.turns(8, 0, 0), BAD);
        due("near where there is none, no case", x.near(64, 1, 0), BAD);
        due("near where there is none, no answer", x.near(0, -1, 0), BAD);
        due("near where there is none, no what", x.near(0, 1, 2), BAD);
        due("argue where there is none, no case", x.argue(-1, 1, 0), BAD);
        due("argue where there is none, no answer", x.argue(0, 2, 0), BAD);
        due("argue where there is none, no what", x.argue(0, 1, -1), BAD);
        due("widest where none say anything, no what", x.widest(2), BAD);
        due("clash where there is none, no what", x.clash(0, 2), BAD);
        due("sheet of no lane, below 0", x.sheet(0, 3, -1), BAD);
        due("no sheet, below 0", x.sheet(4, 0, -1), BAD);
        due("read of nothing, no lane", x.read(0, 3, 0, 0, 0), BAD);
        due("read of nothing, too many", x.read(0, 0, 0, 41, 0), BAD);
        due("read of nothing, no what", x.read(0, 0, 0, 0, 3), BAD);
        due("BAD", LearnedCount.BAD, -1);
        due("STATE", LearnedCount.STATE, -2);
        due("FULL", LearnedCount.FULL, -3);
        due("NONE", LearnedCount.NONE, -4);
    }

    private static void calls512() {
        about("An object is used for at most 512 calls after it has been made; what later calls answer is free.");
        LearnedCount x = new LearnedCount();
        int calls = 0;
        while (calls < 500) {
            x.feed(eight("word a p", 0));
            x.feed(eight(" - yes;", 0));
            due("library() after " + calls + " calls", x.library(), 1);
            due("held(1, 0) after " + calls + " calls", x.held(1, 0), 1);
            x.swap();
            calls += 5;
        }
        due("call 501", x.turn(0), 64);
        due("call 502", x.cases(0), 0xAAAAAAAAAAAAAAAAL);
        due("call 503", x.sheet(0, 0, 40), 1);
        due("call 504", x.read(0, 0, 0, 40, 2), 40);
        for (int i = 505; i < 512; i++) {
            due("call " + i, x.feed(0L), 8 * (i - 504));
        }
        due("call 512", x.library(), -10);
    }

    private static void twoObjects() {
        about("No other static state");
        List<Long> before = seen(made());
        LearnedCount x = made();
        LearnedCount y = new LearnedCount();
        library(y, "word h - - no;".repeat(24));
        rule(y, "main h;two special;");
        y.bring(0);
        y.sheet(0, 1, 40);
        y.feed(-1L);
        y.turn(0);
        y.cases(0);
        must("what is told to one is not told to another", seen(x).equals(before));
        LearnedCount z = new LearnedCount();
        due("words of a new one", z.count(0), 0);
        due("bytes of a new one", z.count(3), 0);
        due("cells of a new one", z.count(4), NONE);
        due("main of a new one", z.weighs(0), 31);
    }
}
