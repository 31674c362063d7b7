import java.util.Random;

/** Runs of calls, made by fixed seeds, on the class and on the plain telling of the document: they answer alike. */
public final class AgainstPlainTest {
    private static int wrong;
    private static int calls;
    private static StringBuilder run;

    /** With a text told on top, a run stays below 512 calls. */
    private static final int MOST_CALLS = 450;
    private int ownCalls;

    private final Random random;
    private final LearnedCount x = new LearnedCount();
    private final PlainCount plain = new PlainCount();

    private AgainstPlainTest(long seed) {
        random = new Random(seed);
    }

    public static void main(String[] args) {
        int runs = args.length > 0 ? Integer.parseInt(args[0]) : 400;
        long first = args.length > 1 ? Long.parseLong(args[1]) : 1;
        for (long seed = first; seed < first + runs && wrong < 10; seed++) {
            run = new StringBuilder();
            new AgainstPlainTest(seed).play();
        }
        System.out.println(wrong == 0 ? calls + " answers are as the plain telling has them" : wrong + " answers are not as due");
        if (wrong != 0) System.exit(1);
    }

    private void due(String call, long got, long want) {
        calls++;
        ownCalls++;
        run.append(call).append(" = ").append(got).append('\n');
        if (got != want) {
            wrong++;
            System.out.println(run + "due is " + want);
        }
    }

    private void play() {
        books = random.nextInt(3) == 0;
        if (random.nextInt(20) != 0) tell(true);
        if (random.nextInt(4) != 0) tell(false);
        for (int i = 0; i < 4 && plain.words.size() < 3 && random.nextInt(8) != 0; i++) tell(true);
        boolean onSheets = random.nextInt(4) == 0;
        for (int i = 0; onSheets && i < 40 && ownCalls < MOST_CALLS; i++) call(31 + random.nextInt(4));
        int many = 30 + random.nextInt(60);
        for (int i = 0; i < many && wrong == 0 && ownCalls < MOST_CALLS; i++) {
            if (random.nextInt(200) == 0) due("library()", x.library(), plain.library());
            else if (random.nextInt(200) == 0) due("rule()", x.rule(), plain.rule());
            else call(random.nextInt(36));
        }
    }

    // ---- texts

    private void tell(boolean library) {
        String text = library ? libraryText() : ruleText();
        if (random.nextInt(5) == 0) text = spoiled(text);
        if (text.length() > 400) text = text.substring(0, 400);
        if (random.nextInt(10) != 0) clearTape();
        int had = plain.tape.length();
        for (int i = 0; i < text.length(); i += 8) {
            long v = 0;
            for (int j = i; j < i + 8; j++) v = v << 8 | (j < text.length() ? text.charAt(j) : ' ');
            due("feed(" + v + ")", x.feed(v), plain.feed(v));
        }
        int n = had + text.length();
        due("end(" + n + ")", x.end(n), plain.end(n));
        run.append(plain.tape).append('\n');
        if (library) due("library()", x.library(), plain.library());
        else due("rule()", x.rule(), plain.rule());
        due("fault()", x.fault(), plain.fault());
    }

    private void clearTape() {
        due("end(0)", x.end(0), plain.end(0));
    }

    private String spoiled(String text) {
        StringBuilder s = new StringBuilder(text);
        String bytes = "abcdefghipquvyes 0123456789-;;  ,.A" + (char) 0 + (char) 9 + (char) 255 + (char) 200;
        for (int times = 1 + random.nextInt(2); times > 0; times--) {
            int at = s.length() == 0 ? 0 : random.nextInt(s.length());
            char sign = bytes.charAt(random.nextInt(bytes.length()));
            int how = random.nextInt(4);
            if (how == 0) s.insert(at, sign);
            else if (how == 1 && s.length() > 0) s.deleteCharAt(at);
            else if (how == 2 && s.length() > 0) s.setCharAt(at, sign);
            else s.setLength(at);
        }
        return s.toString();
    }

    private String one(String... texts) {
        return texts[random.nextInt(texts.length)];
    }

    private String gap() {
        return random.nextInt(12) == 0 ? "  " : " ";
    }

    private String letters(char first, int among, int mostOf) {
        StringBuilder s = new StringBuilder();
        for (int times = 1 + random.nextInt(mostOf); times > 0; times--) {
            char letter = (char) (first + random.nextInt(among));
            if (s.indexOf(String.valueOf(letter)) < 0 || random.nextInt(60) == 0) s.append(letter);
        }
        return s.toString();
    }

    /** A run in which much hangs on books: they are many, and few doctors are main. */
    private boolean books;
    private int kinds;
    private int doctors;
    private int days;

    private String libraryText() {
        StringBuilder s = new StringBuilder();
        int lines = random.nextInt(5) == 0 ? 20 + random.nextInt(8) : random.nextInt(20);
        if (books) return bookText(3 + random.nextInt(12));
        kinds = random.nextInt(4);
        doctors = 1 + random.nextInt(9);
        days = random.nextBoolean() ? 3 : 1000;
        int words = Math.max(2, lines - lines / 4);
        for (int i = 0; i < lines; i++) s.append(libraryLine(words)).append(random.nextInt(9) == 0 ? " ;" : ";");
        return s.toString();
    }

    private String bookText(int words) {
        StringBuilder s = new StringBuilder();
        for (int i = 0; i < words; i++) {
            s.append("in ").append(random.nextInt(random.nextInt(4) == 0 ? 8 : 6)).append(';');
            if (random.nextInt(6) == 0) s.append("cite ").append(letters('b', 7, 1)).append(' ').append(random.nextInt(words));
            else s.append("word ").append(letters('b', 7, 1)).append(one(" - ", " - ", " p ")).append("- ").append(one("yes", "no"));
            s.append(';');
        }
        return s.toString();
    }

    private String libraryLine(int words) {
        String doctor = letters('a', doctors, 1);
        String marks = random.nextInt(5) == 0 ? "-" : letters('p', 6, kinds == 0 ? 4 : 2);
        String without = random.nextInt(2) == 0 ? "-" : letters('p', 6, kinds == 0 ? 4 : 2);
        for (char m : marks.toCharArray()) {
            if (random.nextInt(40) != 0) without = without.equals("-") ? "-" : without.replace(String.valueOf(m), "");
        }
        if (without.isEmpty()) without = "-";
        String saying = gap() + marks + gap() + without + gap() + one("yes", "no");
        switch (random.nextInt(kinds == 1 ? 6 : 14)) {
            case 0: return one("cite", "against") + " " + doctor + gap() + random.nextInt(words);
            case 1: return one("note", "against", "cite") + " " + doctor + " " + random.nextInt(words);
            case 2: return "like " + doctor + " " + marks;
            case 3: return "law " + random.nextInt(days) + saying;
            case 4: return "in" + one("", " ") + random.nextInt(random.nextInt(20) == 0 ? 9 : 8);
            case 5: return "copies " + random.nextInt(8) + " " + random.nextInt(random.nextInt(20) == 0 ? 12 : 4);
            default: return "word " + doctor + saying;
        }
    }

    private String ruleText() {
        StringBuilder s = new StringBuilder();
        for (String name : new String[] {"laws", "main", "copies", "notes", "two", "head", "silent", "two"}) {
            boolean again = s.indexOf(name) >= 0 && random.nextInt(6) != 0;
            boolean told = !again && (books && name.equals("main") || random.nextBoolean());
            if (told) s.append(ruleLine(name)).append(one(";", "; ", " ;"));
            if (random.nextInt(80) == 0) s.append(ruleLine("head")).append(';');
        }
        return s.toString();
    }

    private String ruleLine(String name) {
        switch (name) {
            case "main": if (books) return "main a" + one("", "", "b", "c");
                return "main " + letters('a', random.nextInt(20) == 0 ? 9 : 8, 8);
            case "copies": return "copies " + random.nextInt(random.nextInt(20) == 0 ? 12 : 4);
            case "two": return "two " + one("later", "special", "none", "special");
            case "head": return "head " + letters('a', 8, 1);
            case "silent": return "silent " + one("yes", "no", "open");
            case "laws": return "laws " + one("later", "first", "none");
            default: return name;
        }
    }

    // ---- calls

    /** Mostly within bounds, now and then beyond them. */
    private int upTo(int greatest) {
        int kind = random.nextInt(60);
        if (kind == 0) return -1 - random.nextInt(5);
        if (kind == 1) return greatest + 1 + random.nextInt(5);
        if (kind == 2) return random.nextBoolean() ? Integer.MIN_VALUE : Integer.MAX_VALUE;
        if (kind == 3) return random.nextInt();
        return random.nextInt(greatest + 1);
    }

    private int word() {
        return upTo(Math.max(0, plain.words.size() - 1));
    }

    private static String told(String name, int... numbers) {
        StringBuilder s = new StringBuilder(name).append('(');
        for (int i = 0; i < numbers.length; i++) s.append(i == 0 ? "" : ", ").append(numbers[i]);
        return s.append(')').toString();
    }

    private void call(int which) {
        int c = upTo(63), d = upTo(7), e = upTo(7), w = word(), a = upTo(1), two = upTo(1), b = upTo(7);
        int kind = random.nextBoolean() ? upTo(2) : 10 + upTo(4);
        int n = upTo(random.nextBoolean() ? 4 : 40), k = upTo(random.nextInt(3)), lane = upTo(2);
        if (!plain.words.isEmpty() && random.nextBoolean()) d = plain.words.get(random.nextInt(plain.words.size())).doctor;
        switch (which) {
            case 0: long v = random.nextLong(); due("feed(" + v + ")", x.feed(v), plain.feed(v)); break;
            case 1: n = upTo(plain.tape.length()); due(told("end", n), x.end(n), plain.end(n)); break;
            case 2: tell(true); break;
            case 3: tell(false); break;
            case 4: due("fault()", x.fault(), plain.fault()); break;
            case 5: n = upTo(6); due(told("weighs", n), x.weighs(n), plain.weighs(n)); break;
            case 6: n = upTo(8); due(told("word", w, n), x.word(w, n), plain.word(w, n)); break;
            case 7: due(told("says", w, c), x.says(w, c), plain.says(w, c)); break;
            case 8: n = upTo(2); due(told("words", n), x.words(n), plain.words(n)); break;
            case 9: n = upTo(2); due(told("meets", c, n), x.meets(c, n), plain.meets(c, n)); break;
            case 10: due(told("steps", w), x.steps(w), plain.steps(w)); break;
            case 11: due(told("each", d, c), x.each(d, c), plain.each(d, c)); break;
            case 12: due(told("clash", d, two), x.clash(d, two), plain.clash(d, two)); break;
            case 13: n = upTo(2); due(told("sides", d, e, n), x.sides(d, e, n), plain.sides(d, e, n)); break;
            case 14: due(told("hangs", d, two), x.hangs(d, two), plain.hangs(d, two)); break;
            case 15: n = upTo(3); due(told("held", c, n), x.held(c, n), plain.held(c, n)); break;
            case 16: due(told("cases", kind), x.cases(kind), plain.cases(kind)); break;
            case 17: due(told("many", kind), x.many(kind), plain.many(kind)); break;
            case 18: reckon(c); break;
            case 19: due(told("widest", two), x.widest(two), plain.widest(two)); break;
            case 20: due(told("near", c, a, two), x.near(c, a, two), plain.near(c, a, two)); break;
            case 21: n = upTo(255); due(told("bring", n), x.bring(n), plain.bring(n)); break;
            case 22: n = upTo(random.nextBoolean() ? 3 : 9); due(told("copies", b, n), x.copies(b, n), plain.copies(b, n)); break;
            case 23: due(told("argue", c, a, two), x.argue(c, a, two), plain.argue(c, a, two)); break;
            case 24: due(told("game", c, a, two), x.game(c, a, two), plain.game(c, a, two)); break;
            case 25: if (random.nextInt(8) == 0) { n = upTo(3); due(told("turn", n), x.turn(n), plain.turn(n)); } break;
            case 26: n = upTo(63) & (random.nextBoolean() ? 3 : -1); due(told("turns", d, a, n), x.turns(d, a, n), plain.turns(d, a, n)); break;
            case 27: due("keep()", x.keep(), plain.keep()); break;
            case 28: due("swap()", x.swap(), plain.swap()); break;
            case 29: due(told("differ", two), x.differ(two), plain.differ(two)); break;
            case 30: due(told("brief", two), x.brief(two), plain.brief(two)); break;
            case 31: due(told("sheet", k, lane, n), x.sheet(k, lane, n), plain.sheet(k, lane, n)); break;
            case 32: due(told("lay", k, n, c), x.lay(k, n, c), plain.lay(k, n, c)); break;
            case 33: c = random.nextInt(); due(told("lay", k, n, c), x.lay(k, n, c), plain.lay(k, n, c)); break;
            case 34:
                if (k >= 0 && k < 4 && random.nextInt(5) != 0) {
                    lane = plain.sheets[k] instanceof byte[] ? 0 : plain.sheets[k] instanceof short[] ? 1 : 2;
                }
                read(k, lane, n);
                break;
            default: n = random.nextBoolean() ? upTo(4) : 10 + upTo(7); due(told("count", n), x.count(n), plain.count(n));
        }
    }

    private void reckon(int c) {
        int[] r = {plain.held(c, 1), plain.held(c, 2), plain.held(c, 3), plain.held(c, 0)};
        for (int times = random.nextInt(3); times > 0; times--) r[random.nextInt(4)] = upTo(4);
        due(told("reckon", c, r[0], r[1], r[2], r[3]), x.reckon(c, r[0], r[1], r[2], r[3]), plain.reckon(c, r[0], r[1], r[2], r[3]));
    }

    private void read(int k, int lane, int n) {
        int f = upTo(random.nextBoolean() ? 3 : 40);
        int what = upTo(2);
        due(told("read", k, lane, f, n, what), x.read(k, lane, f, n, what), plain.read(k, lane, f, n, what));
    }
}
