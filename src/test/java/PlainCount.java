import java.util.ArrayList;
import java.util.Arrays;
import java.util.HashSet;
import java.util.List;
import java.util.Set;
import java.util.TreeMap;
import java.util.TreeSet;
import java.util.function.IntPredicate;

/**
 * The document once more, said as plainly as may be and without regard to speed: case by case, word by word, with
 * lists, recursion and the machine's own exceptions. The tests hold the class against it.
 */
final class PlainCount {
    static final int BAD = -1, STATE = -2, FULL = -3, NONE = -4;

    static final class W {
        String kind;
        int doctor = NONE, book, first, second, answer = NONE, follows = NONE, day = NONE, place;
    }

    static final class R {
        Set<Integer> main = new TreeSet<>(List.of(0, 1, 2, 3, 4));
        int copies = 2;
        boolean notes;
        String two = "none";
        int head = NONE;
        String silent = "open";
        String laws = "later";
    }

    /** A fault of a text. */
    static final class Fault extends Exception {
        private static final long serialVersionUID = 1L;
        final int which, place;

        Fault(int which, int place) {
            this.which = which;
            this.place = place;
        }
    }

    String tape = "";
    List<W> words = new ArrayList<>();
    int[] copies = {2, 2, 2, 2, 2, 2, 2, 2};
    Set<Integer> brought = new TreeSet<>(List.of(0, 1, 2, 3, 4, 5, 6, 7));
    R rule = new R(), other = new R();
    Object[] sheets = new Object[4];
    int latestFault;

    // ---- texts

    int feed(long v) {
        if (tape.length() + 8 > 400) return FULL;
        for (int shift = 56; shift >= 0; shift -= 8) tape += (char) (v >>> shift & 255);
        return tape.length();
    }

    int end(int n) {
        if (n < 0 || n > tape.length()) return BAD;
        int had = tape.length();
        tape = tape.substring(0, n);
        return had;
    }

    String token;
    int at, behind;

    String next() throws Fault {
        while (behind < tape.length() && tape.charAt(behind) == ' ') behind++;
        at = behind;
        if (at == tape.length()) return token = "";
        String rest = tape.substring(at);
        String found = rest.replaceAll("(?s)^([a-z]+|[0-9]+|-|;).*$", "$1");
        if (!found.matches("[a-z]+|[0-9]{1,3}|-|;")) throw new Fault(1, at);
        behind = at + found.length();
        return token = found;
    }

    String want(String form) throws Fault {
        if (!next().matches(form)) throw new Fault(2, at);
        return token;
    }

    int number(int greatest) throws Fault {
        int n = Integer.parseInt(want("[0-9]+"));
        if (n > greatest) throw new Fault(3, at);
        return n;
    }

    int letters(String name, String alphabet, int mostLetters) throws Fault {
        int bits = 0;
        for (char letter : name.toCharArray()) {
            int i = alphabet.indexOf(letter);
            if (i < 0 || (bits & 1 << i) != 0) throw new Fault(3, at);
            bits |= 1 << i;
        }
        if (name.length() > mostLetters) throw new Fault(3, at);
        return bits;
    }

    int doctor() throws Fault {
        return Integer.numberOfTrailingZeros(letters(want("[a-z]+"), "abcdefgh", 1));
    }

    int marks() throws Fault {
        return want("[a-z]+|-").equals("-") ? 0 : letters(token, "pqrstu", 6);
    }

    int answer() throws Fault {
        want("[a-z]+");
        if (token.equals("yes")) return 1;
        if (token.equals("no")) return 0;
        throw new Fault(3, at);
    }

    int library() {
        List<W> told = new ArrayList<>();
        int[] toldCopies = new int[8];
        Arrays.fill(toldCopies, -1);
        int lines = 0, book = 0;
        at = behind = 0;
        try {
            while (!next().isEmpty()) {
                if (token.equals("in")) {
                    book = number(7);
                } else if (token.equals("copies")) {
                    int b = number(7);
                    if (toldCopies[b] >= 0) throw new Fault(4, at);
                    toldCopies[b] = number(9);
                } else {
                    told.add(wordLine(told.size(), book));
                }
                want(";");
                lines++;
            }
            for (int i = 0; i < told.size(); i++) {
                W w = told.get(i);
                if (w.follows != NONE && (w.follows >= told.size() || w.follows == i || told.get(w.follows).kind.equals("law"))) {
                    throw new Fault(6, w.place);
                }
            }
        } catch (Fault f) {
            return faulty(f);
        }
        words = told;
        for (int b = 0; b < 8; b++) {
            copies[b] = toldCopies[b] < 0 ? 2 : toldCopies[b];
            brought.add(b);
        }
        return taken(lines);
    }

    int faulty(Fault f) {
        tape = "";
        latestFault = f.which;
        return -10 - f.place;
    }

    int taken(int lines) {
        tape = "";
        latestFault = 0;
        return lines;
    }

    W wordLine(int ahead, int book) throws Fault {
        if (!token.matches("word|cite|against|note|like|law")) throw new Fault(2, at);
        if (ahead == 24) throw new Fault(5, at);
        W w = new W();
        w.kind = token;
        w.book = book;
        if (w.kind.equals("law")) w.day = number(999);
        else w.doctor = doctor();
        if (w.kind.matches("cite|against|note")) {
            w.follows = number(23);
            w.place = at;
        } else {
            w.first = marks();
            if (!w.kind.equals("like")) {
                w.second = marks();
                if ((w.first & w.second) != 0) throw new Fault(4, at);
                w.answer = answer();
            }
        }
        return w;
    }

    int rule() {
        R told = new R();
        Set<String> names = new HashSet<>();
        int lines = 0;
        at = behind = 0;
        try {
            while (!next().isEmpty()) {
                String name = token;
                if (!name.matches("main|copies|notes|two|head|silent|laws")) throw new Fault(2, at);
                if (!names.add(name)) throw new Fault(4, at);
                if (name.equals("main")) {
                    int bits = letters(want("[a-z]+"), "abcdefgh", 8);
                    told.main.clear();
                    for (int d = 0; d < 8; d++) if ((bits & 1 << d) != 0) told.main.add(d);
                }
                if (name.equals("copies")) told.copies = number(9);
                if (name.equals("notes")) told.notes = true;
                if (name.equals("two")) told.two = want("later|special|none");
                if (name.equals("head")) told.head = doctor();
                if (name.equals("silent")) told.silent = want("yes|no|open");
                if (name.equals("laws")) told.laws = want("later|first|none");
                want(";");
                lines++;
            }
        } catch (Fault f) {
            return faulty(f);
        }
        rule = told;
        return taken(lines);
    }

    int fault() {
        return latestFault;
    }

    int weighs(int what) {
        switch (what) {
            case 0: return bits(rule.main);
            case 1: return rule.copies;
            case 2: return rule.notes ? 1 : 0;
            case 3: return List.of("none", "later", "special").indexOf(rule.two);
            case 4: return rule.head;
            case 5: return rule.silent.equals("yes") ? 1 : rule.silent.equals("no") ? 0 : NONE;
            case 6: return List.of("none", "later", "first").indexOf(rule.laws);
            default: return BAD;
        }
    }

    static int bits(Set<Integer> set) {
        int bits = 0;
        for (int i : set) bits |= 1 << i;
        return bits;
    }

    static Set<Integer> set(int bits) {
        Set<Integer> set = new TreeSet<>();
        for (int i = 0; i < 8; i++) if ((bits & 1 << i) != 0) set.add(i);
        return set;
    }

    // ---- words

    boolean noWord(int w) {
        return w < 0 || w >= words.size();
    }

    static boolean out(int n, int least, int greatest) {
        return n < least || n > greatest;
    }

    List<Integer> follows(int w) {
        List<Integer> list = new ArrayList<>();
        W it = words.get(w);
        if (it.follows != NONE) list.add(it.follows);
        if (it.kind.equals("like")) {
            for (int i = 0; i < w; i++) {
                if (words.get(i).doctor == it.doctor && !words.get(i).kind.equals("note")) list.add(i);
            }
        }
        return list;
    }

    Set<Integer> comesTo(int w) {
        Set<Integer> seen = new TreeSet<>();
        List<Integer> open = new ArrayList<>(follows(w));
        while (!open.isEmpty()) {
            int i = open.remove(open.size() - 1);
            if (seen.add(i)) open.addAll(follows(i));
        }
        return seen;
    }

    boolean ring(int w) {
        return comesTo(w).contains(w);
    }

    boolean unsound(int w) {
        if (ring(w)) return true;
        for (int i : comesTo(w)) if (ring(i)) return true;
        return false;
    }

    int weight(int w) {
        W it = words.get(w);
        if (it.follows == NONE) return Integer.bitCount(it.first) + Integer.bitCount(it.second);
        return unsound(w) ? 0 : weight(it.follows);
    }

    int word(int w, int what) {
        if (noWord(w) || out(what, 0, 8)) return BAD;
        W it = words.get(w);
        int kind = List.of("word", "cite", "against", "note", "like", "law").indexOf(it.kind);
        int[] all = {kind, it.doctor, it.book, it.first, it.second, it.answer, it.follows, it.day, weight(w)};
        return all[what];
    }

    /** What has been asked of the words that stand now: they do not change while a library stands. */
    private final TreeMap<Integer, Integer> asked = new TreeMap<>();
    private List<W> askedOf = words;

    int wordSays(int w, int c) {
        if (askedOf != words) {
            asked.clear();
            askedOf = words;
        }
        Integer known = asked.get(w * 64 + c);
        if (known == null) {
            known = freshWordSays(w, c);
            asked.put(w * 64 + c, known);
        }
        return known;
    }

    private int freshWordSays(int w, int c) {
        W it = words.get(w);
        if (unsound(w)) return NONE;
        if (it.kind.equals("against")) {
            int said = wordSays(it.follows, c);
            return said == NONE ? NONE : said == 1 ? 0 : 1;
        }
        if (it.follows != NONE) return wordSays(it.follows, c);
        if ((c & it.first) != it.first || (c & it.second) != 0) return NONE;
        if (!it.kind.equals("like")) return it.answer;
        Set<Integer> said = new TreeSet<>();
        for (int i : follows(w)) said.add(wordSays(i, it.first));
        said.remove(NONE);
        return same(said);
    }

    static int same(Set<Integer> said) {
        return said.size() == 1 ? said.iterator().next() : NONE;
    }

    int says(int w, int c) {
        return noWord(w) || out(c, 0, 63) ? BAD : wordSays(w, c);
    }

    boolean counts(int w, R r, Set<Integer> books) {
        W it = words.get(w);
        if (it.kind.equals("law")) return false;
        if (it.kind.equals("note") && !r.notes) return false;
        return r.main.contains(it.doctor) || books.contains(it.book) && copies[it.book] >= r.copies;
    }

    int wordBits(IntPredicate which) {
        int bits = 0;
        for (int w = 0; w < words.size(); w++) if (which.test(w)) bits |= 1 << w;
        return bits;
    }

    int words(int what) {
        switch (what) {
            case 0: return wordBits(this::ring);
            case 1: return wordBits(this::unsound);
            case 2: return wordBits(w -> counts(w, rule, brought));
            default: return BAD;
        }
    }

    int meets(int c, int what) {
        if (out(c, 0, 63)) return BAD;
        switch (what) {
            case 0: return wordBits(w -> wordSays(w, c) != NONE);
            case 1: return wordBits(w -> wordSays(w, c) == 1);
            case 2: return wordBits(w -> wordSays(w, c) != NONE && counts(w, rule, brought));
            default: return BAD;
        }
    }

    int steps(int w) {
        if (noWord(w)) return BAD;
        if (unsound(w)) return NONE;
        return words.get(w).follows == NONE ? 0 : 1 + steps(words.get(w).follows);
    }

    // ---- doctors

    /** All that is weighed of one case. */
    final class Weighed {
        final R r;
        final int[] says = new int[8];
        final boolean[] clashes = new boolean[8];
        int law, by, held, yes, no;

        /** A word that is found is of finder, if that is not NONE. */
        Weighed(int c, R r, Set<Integer> books, int finder, int foundMarks, int foundAnswer) {
            this.r = r;
            for (int d = 0; d < 8; d++) {
                List<int[]> list = new ArrayList<>();
                for (int w = 0; w < words.size(); w++) {
                    if (words.get(w).doctor == d && counts(w, r, books) && wordSays(w, c) != NONE) {
                        list.add(new int[] {wordSays(w, c), weight(w)});
                    }
                }
                if (d == finder && (c & foundMarks) == foundMarks) {
                    list.add(new int[] {foundAnswer, Integer.bitCount(foundMarks)});
                }
                says[d] = doctorSays(d, list);
            }
            law = lawSays(c);
            decide();
        }

        int doctorSays(int d, List<int[]> list) {
            Set<Integer> said = new TreeSet<>();
            int greatest = -1;
            for (int[] one : list) {
                said.add(one[0]);
                greatest = Math.max(greatest, one[1]);
            }
            clashes[d] = said.size() == 2;
            if (clashes[d] && r.two.equals("later")) return list.get(list.size() - 1)[0];
            if (clashes[d] && r.two.equals("special")) {
                said.clear();
                for (int[] one : list) if (one[1] == greatest) said.add(one[0]);
            }
            return same(said);
        }

        int lawSays(int c) {
            if (r.laws.equals("none")) return NONE;
            TreeMap<Integer, Set<Integer>> byDay = new TreeMap<>();
            for (int w = 0; w < words.size(); w++) {
                W it = words.get(w);
                if (it.kind.equals("law") && wordSays(w, c) != NONE) {
                    byDay.computeIfAbsent(it.day, day -> new TreeSet<>()).add(wordSays(w, c));
                }
            }
            if (byDay.isEmpty()) return NONE;
            return same(r.laws.equals("first") ? byDay.firstEntry().getValue() : byDay.lastEntry().getValue());
        }

        void decide() {
            yes = no = 0;
            for (int said : says) {
                if (said == 1) yes++;
                if (said == 0) no++;
            }
            int head = r.head == NONE ? NONE : says[r.head];
            int silent = r.silent.equals("yes") ? 1 : r.silent.equals("no") ? 0 : NONE;
            int[] answers = {NONE, law, yes > no ? 1 : yes < no ? 0 : NONE, head, silent};
            by = 0;
            for (int i = 4; i > 0; i--) if (answers[i] != NONE) by = i;
            held = answers[by];
        }
    }

    Weighed weigh(int c, R r, Set<Integer> books) {
        return new Weighed(c, r, books, NONE, 0, 0);
    }

    Weighed weigh(int c) {
        return weigh(c, rule, brought);
    }

    int each(int d, int c) {
        return out(d, 0, 7) || out(c, 0, 63) ? BAD : weigh(c).says[d];
    }

    static int manyOrLeast(List<Integer> cases, int what) {
        return what == 0 ? cases.size() : cases.isEmpty() ? NONE : cases.get(0);
    }

    List<Integer> casesWhere(IntPredicate which) {
        List<Integer> list = new ArrayList<>();
        for (int c = 0; c < 64; c++) if (which.test(c)) list.add(c);
        return list;
    }

    int clash(int d, int what) {
        if (out(d, 0, 7) || out(what, 0, 1)) return BAD;
        return manyOrLeast(casesWhere(c -> weigh(c).clashes[d]), what);
    }

    int sides(int d, int e, int what) {
        if (out(d, 0, 7) || out(e, 0, 7) || d == e || out(what, 0, 2)) return BAD;
        List<Integer> both = casesWhere(c -> weigh(c).says[d] != NONE && weigh(c).says[e] != NONE);
        if (what == 0) return both.size();
        int alike = 0;
        for (int c : both) {
            if (weigh(c).says[d] == weigh(c).says[e]) alike++;
            else if (what == 2) return c;
        }
        return what == 1 ? alike : NONE;
    }

    int hangs(int d, int what) {
        if (out(d, 0, 7) || out(what, 0, 1)) return BAD;
        return manyOrLeast(casesWhere(c -> {
            Weighed weighed = weigh(c);
            int held = weighed.held;
            weighed.says[d] = NONE;
            weighed.decide();
            return weighed.held != held;
        }), what);
    }

    // ---- what holds

    int held(int c, int what) {
        if (out(c, 0, 63) || out(what, 0, 3)) return BAD;
        Weighed weighed = weigh(c);
        return new int[] {weighed.held, weighed.by, weighed.yes, weighed.no}[what];
    }

    List<Integer> casesOf(int what) {
        if (what >= 10) return casesWhere(c -> weigh(c).by == what - 10);
        return casesWhere(c -> weigh(c).held == new int[] {1, 0, NONE}[what]);
    }

    long cases(int what) {
        if (out(what, 0, 2) && out(what, 10, 14)) return 0;
        long bits = 0;
        for (int c : casesOf(what)) bits |= 1L << c;
        return bits;
    }

    int many(int what) {
        return out(what, 0, 2) && out(what, 10, 14) ? BAD : casesOf(what).size();
    }

    int reckon(int c, int by, int yes, int no, int answer) {
        if (out(c, 0, 63)) return BAD;
        if (held(c, 1) != by) return 1;
        if (held(c, 2) != yes) return 2;
        if (held(c, 3) != no) return 3;
        return held(c, 0) != answer ? 4 : 0;
    }

    int widest(int what) {
        if (out(what, 0, 1)) return BAD;
        for (int lesser = 8; lesser >= 0; lesser--) {
            for (int all = 8; all > 0; all--) {
                for (int c = 0; c < 64; c++) {
                    Weighed weighed = weigh(c);
                    if (Math.min(weighed.yes, weighed.no) == lesser && weighed.yes + weighed.no == all) {
                        return what == 0 ? c : lesser;
                    }
                }
            }
        }
        return NONE;
    }

    int near(int c, int answer, int what) {
        if (out(c, 0, 63) || out(answer, 0, 1) || out(what, 0, 1)) return BAD;
        for (int marks = 0; marks <= 6; marks++) {
            for (int o = 0; o < 64; o++) {
                if (Integer.bitCount(c ^ o) == marks && weigh(o).held == answer) return what == 0 ? o : marks;
            }
        }
        return NONE;
    }

    // ---- books

    int bring(int books) {
        if (out(books, 0, 255)) return BAD;
        int were = bits(brought);
        brought = set(books);
        return were;
    }

    int copies(int book, int n) {
        if (out(book, 0, 7) || out(n, 0, 9)) return BAD;
        int were = copies[book];
        copies[book] = n;
        return were;
    }

    int argue(int c, int answer, int what) {
        if (out(c, 0, 63) || out(answer, 0, 1) || out(what, 0, 1)) return BAD;
        for (int n = 0; n <= 8; n++) {
            for (int books = 0; books < 256; books++) {
                if (Integer.bitCount(books) == n && weigh(c, rule, set(books)).held == answer) {
                    return what == 0 ? n : books;
                }
            }
        }
        return NONE;
    }

    /** What comes of it for the one for yes: 2, 1 open, 0; known results are kept. */
    int comes(int c, int books, int mover, boolean passed, Integer[] known) {
        int key = books * 4 + mover * 2 + (passed ? 1 : 0);
        if (known[key] == null) {
            if (books == 63) {
                known[key] = ended(c, books);
            } else {
                int best = afterTurn(c, books, mover, passed, 6, known);
                for (int b = 0; b < 6; b++) {
                    if ((books & 1 << b) == 0) {
                        int value = afterTurn(c, books, mover, passed, b, known);
                        if (mover == 1 ? value > best : value < best) best = value;
                    }
                }
                known[key] = best;
            }
        }
        return known[key];
    }

    int afterTurn(int c, int books, int mover, boolean passed, int turn, Integer[] known) {
        if (turn < 6) return comes(c, books | 1 << turn, 1 - mover, false, known);
        return passed ? ended(c, books) : comes(c, books, 1 - mover, true, known);
    }

    int ended(int c, int books) {
        int held = weigh(c, rule, set(books)).held;
        return held == 1 ? 2 : held == 0 ? 0 : 1;
    }

    int game(int c, int begins, int what) {
        if (out(c, 0, 63) || out(begins, 0, 1) || out(what, 0, 1)) return BAD;
        Integer[] known = new Integer[256];
        int best = comes(c, 0, begins, false, known);
        if (what == 0) return new int[] {0, NONE, 1}[best];
        int turn = 0;
        while (turn < 6 && afterTurn(c, 0, begins, false, turn, known) != best) turn++;
        return turn;
    }

    int turnedBy(int d, int answer, int marks) {
        return casesWhere(c -> new Weighed(c, rule, brought, d, marks, answer).held != weigh(c).held).size();
    }

    int turn(int what) {
        if (out(what, 0, 3)) return BAD;
        int[] best = null;
        for (int d : rule.main) {
            for (int answer = 0; answer < 2; answer++) {
                for (int marks = 0; marks < 64; marks++) {
                    int turned = turnedBy(d, answer, marks);
                    if (best == null || turned > best[0]) best = new int[] {turned, d, answer, marks};
                }
            }
        }
        return best == null ? NONE : best[what];
    }

    int turns(int d, int answer, int marks) {
        if (out(d, 0, 7) || out(answer, 0, 1) || out(marks, 0, 63)) return BAD;
        return rule.main.contains(d) ? turnedBy(d, answer, marks) : STATE;
    }

    // ---- rules beside one another

    int keep() {
        other = rule;
        return 1;
    }

    int swap() {
        R kept = rule;
        rule = other;
        other = kept;
        return 1;
    }

    int differ(int what) {
        if (out(what, 0, 1)) return BAD;
        return manyOrLeast(casesWhere(c -> weigh(c).held != weigh(c, other, brought).held), what);
    }

    int brief(int what) {
        if (out(what, 0, 1)) return BAD;
        int[] held = new int[64];
        for (int c = 0; c < 64; c++) held[c] = weigh(c).held;
        for (int n = 0; ; n++) {
            for (int marks = 0; marks < 64; marks++) {
                if (Integer.bitCount(marks) == n && suffices(marks, held)) return what == 0 ? n : marks;
            }
        }
    }

    static boolean suffices(int marks, int[] held) {
        for (int c = 0; c < 64; c++) {
            for (int o = 0; o < 64; o++) {
                if ((c & marks) == (o & marks) && held[c] != NONE && held[o] != NONE && held[c] != held[o]) return false;
            }
        }
        return true;
    }

    // ---- sheets

    int sheet(int k, int lane, int n) {
        if (out(k, 0, 3) || out(lane, 0, 2) || n > 40) return BAD;
        try {
            sheets[k] = lane == 0 ? new byte[n] : lane == 1 ? new short[n] : new int[n];
            return 1;
        } catch (NegativeArraySizeException e) {
            return -14;
        }
    }

    int lay(int k, int i, int v) {
        if (out(k, 0, 3)) return BAD;
        try {
            if (sheets[k] instanceof byte[]) ((byte[]) sheets[k])[i] = (byte) v;
            else if (sheets[k] instanceof short[]) ((short[]) sheets[k])[i] = (short) v;
            else ((int[]) sheets[k])[i] = v;
            return 1;
        } catch (NullPointerException e) {
            return -11;
        } catch (ArrayIndexOutOfBoundsException e) {
            return -12;
        }
    }

    int read(int k, int lane, int f, int n, int what) {
        if (out(k, 0, 3) || out(lane, 0, 2) || out(n, 0, 40) || out(what, 0, 2)) return BAD;
        int found = 0;
        try {
            int length = lane == 0 ? ((byte[]) sheets[k]).length : lane == 1 ? ((short[]) sheets[k]).length : ((int[]) sheets[k]).length;
            for (int i = 0; i < n; i++) {
                int cell = lane == 0 ? ((byte[]) sheets[k])[f + i] : lane == 1 ? ((short[]) sheets[k])[f + i] : ((int[]) sheets[k])[f + i];
                if (out(cell, 0, 63)) return -20 - i;
                if (weigh(cell).held == new int[] {1, 0, NONE}[what]) found++;
            }
            return length < 0 ? BAD : found;
        } catch (NullPointerException e) {
            return -11;
        } catch (ClassCastException e) {
            return -13;
        } catch (ArrayIndexOutOfBoundsException e) {
            return -12;
        }
    }

    int count(int what) {
        switch (what) {
            case 0: return words.size();
            case 1: return Integer.bitCount(wordBits(w -> words.get(w).kind.equals("law")));
            case 2: return brought.size();
            case 3: return tape.length();
            case 4: return sheets[0] == null ? NONE : java.lang.reflect.Array.getLength(sheets[0]);
            default: return out(what, 10, 17) ? BAD : copies[what - 10];
        }
    }
}
