import java.util.ArrayList;
import java.util.List;
import java.util.Random;

/** Runs of chosen calls on the class and on the plain model side by side: all answers are the same. */
public final class PlainModelTest {
    private static final int RUNS = 800;
    /** The document promises 512 calls of one object; a look at a whole structure takes up to 128 of them. */
    private static final int CALLS = 512 - 128 - 12;
    /** Symbols with arities, then clauses that are hard for small sizes; some of them have one structure or none. */
    private static final String[][] BEGINNINGS = {
        {"a2b1c0", "=axcx", "=axbxc", "=axayzaaxyz"},
        {"a2b1c0d0", "=axcx", "=axbxc", "=axayzaaxyz", "!=cd"},
        {"a2b0c0d0", "=axdx", "=adxx", "=axayzaaxyz", "!=abcacb"},
        {"a2b0c0d0", "=axyayx", "=axxx", "!=bc", "!=cd", "!=bd"},
        {"a1P1", "Px|Pax", "!Px|!Pax", "!=aaxx"},
        {"a1b0P1", "!Pb", "Px|Pax", "!=aaxx", "!=aaaxx"},
        {"a2b2P2", "!=axyayx|=xy", "!=axxbxx", "Pxbyx|!Paxyy", "!=bxbxyy"},
        {"P2Q2a1", "!Pxx", "Pxax", "!Pxy|!Pyx", "Pxy|Pyx|=xy"},
        {"P2Q2a1", "!Pxx", "Pxax", "!Pxy|!Pyz|Pxz"},
        {"P2Q2R2a1", "!=axx", "Pxy|Qxy|Rxy", "!Pxy|!Qxy", "!Qxy|!Rxy", "Pxax", "!Paxx"},
        {"P2Q2R2a1", "!=axx", "!=aaxx", "Sxx|Pxy|Qxy", "Pxy|Qyx", "!Pxax|!Qaxx", "Qxax"},
        {"a1b1c1d0", "!=axx", "=aaxx", "!=bxx", "!=axbx", "=bcxx"},
        {"a2", "!=axxx", "!=axyx", "!=axyy", "=axyayx"},
        {"a2", "=axxx", "!=axyx|=xy", "!=axyy|=xy", "=axayxy"},
        {"a2b2", "!=axybxy", "=axayxy", "=aaxyyx", "=bxbyxy"},
        {"a2b1", "!=bxx", "=axbxx", "!=axyayx|=xy", "!=aaxyzaxayz"},
        {"a0b0P2Q2R2S2", "!=ab", "!Pxy|Sbb", "!Qxy|Sbb", "!Rxy|Sbb", "!Sxy|Sbb", "!Sbb"},
        {"a0b0P2Q1R2S1", "!=ab", "!Rxa|!Pxa", "Rab|!Sx", "!Sb|Qb", "!Qb", "Qx|Sx", "!Sb"},
        {"a0b0P2Q1R2S2", "!=ab", "Paa|Sxb", "!Sax|!Qa", "Rxb|!Sxa", "!Rax|!Sax", "!Sbb"},
        {"a0b0P2Q2R2S1", "!=ab", "!Rbx|!Rxx", "!Rab|Sx", "Rbb|Qax", "!Sb"},
        {"a2b2c2d2", "!=axybxy", "!=cxydxy", "=axxcxx"},
    };

    /** How often find() and more() ended in each way: a way that never came would not have been tested. */
    private static final int[] seen = new int[7];

    private final Random random;
    private final StructureFinder finder = new StructureFinder();
    private final PlainModel model = new PlainModel();
    private final List<String> calls = new ArrayList<>();
    private final int[] arities = {-1, -1, -1, -1, -1, -1, -1, -1};

    private PlainModelTest(long seed) {
        // The first numbers of neighbouring small seeds are much alike, so the seed is spread.
        random = new Random(seed * 0x9E3779B97F4A7C15L);
    }

    public static void main(String[] args) {
        for (int run = 0; run < RUNS; run++) {
            PlainModelTest test = new PlainModelTest(run);
            if (!test.agrees()) {
                System.out.println("run " + run + ": the last of these calls differs");
                test.calls.forEach(System.out::println);
                System.exit(1);
            }
        }
        for (int i = 0; i < seen.length; i++) {
            if (seen[i] == 0) {
                System.out.println("no find() or more() ended in way " + i);
                System.exit(1);
            }
        }
        System.out.println(RUNS + " runs agree with the plain model");
    }

    private boolean agrees() {
        boolean fine = true;
        if (random.nextInt(2) == 0) {
            fine = begin(BEGINNINGS[random.nextInt(BEGINNINGS.length)]);
        } else {
            int symbols = random.nextInt(5);
            for (int i = 0; i < symbols && fine; i++) fine = symbol();
        }
        while (fine && calls.size() < CALLS) fine = chosenCall();
        return fine;
    }

    private boolean begin(String[] beginning) {
        boolean fine = true;
        for (int i = 0; i < beginning[0].length(); i += 2) {
            fine = fine && symbol(beginning[0].charAt(i), beginning[0].charAt(i + 1) - '0');
        }
        for (int i = 1; i < beginning.length; i++) {
            fine = fine && typed(beginning[i]) && same("clause()", finder.clause(), model.clause());
        }
        return fine && find();
    }

    private boolean chosenCall() {
        int chosen = random.nextInt(40);
        if (chosen < 1 && random.nextInt(4) == 0) return symbol();
        if (chosen < 7) return text() && same("clause()", finder.clause(), model.clause());
        if (chosen < 13) return same("drop()", finder.drop(), model.drop());
        if (chosen < 18) return find();
        if (chosen < 22) return more();
        if (chosen < 29) return check();
        if (chosen < 37) return value();
        if (chosen < 38) return typeAnything();
        return looks();
    }

    private boolean symbol() {
        char letter = pick(random.nextInt(20) == 0 ? "eAxOT=\u0161" : "abcdPQRS");
        int arity = random.nextInt(20) == 0 ? random.nextInt(9) - 4 : random.nextInt(3);
        return symbol(letter, arity);
    }

    private boolean symbol(char letter, int arity) {
        boolean got = finder.symbol(letter, arity);
        int index = "abcdPQRS".indexOf(letter);
        if (got && index >= 0) arities[index] = arity;
        return same("symbol(" + letter + ", " + arity + ")", got ? 1 : 0, model.symbol(letter, arity) ? 1 : 0);
    }

    private boolean find() {
        int n = random.nextInt(10) == 0 ? random.nextInt(12) - 4 : 4 - random.nextInt(4) * random.nextInt(2);
        int got = finder.find(n);
        seen[got == StructureFinder.OUT ? 0 : got == 0 ? 1 : 2]++;
        return same("find(" + n + ")", got, model.find(n)) && looks() && wholeStructure();
    }

    private boolean more() {
        int got = finder.more();
        seen[got == StructureFinder.OUT ? 3 : got == 0 ? 4 : got == 1 ? 5 : 6]++;
        return same("more()", got, model.more()) && looks() && wholeStructure();
    }

    private boolean looks() {
        return same("tries()", finder.tries(), model.tries())
                && same("size()", finder.size(), model.size())
                && same("clauses()", finder.clauses(), model.clauses());
    }

    /** The cells alone that there are: value() asks for others too. */
    private boolean wholeStructure() {
        for (int k = 0; k < arities.length; k++) {
            int firsts = arities[k] >= 1 ? model.size() : 1;
            int seconds = arities[k] >= 2 ? model.size() : 1;
            for (int cell = 0; arities[k] >= 0 && cell < firsts * seconds; cell++) {
                if (!sameValue("abcdPQRS".charAt(k), cell / seconds, cell % seconds)) return false;
            }
        }
        return true;
    }

    private boolean value() {
        char letter = pick("abcdPQRSxe=T");
        int i = random.nextInt(7) - 1;
        int j = random.nextInt(7) - 1;
        return sameValue(letter, i, j);
    }

    private boolean sameValue(char letter, int i, int j) {
        return same("value(" + letter + ", " + i + ", " + j + ")",
                finder.value(letter, i, j), model.value(letter, i, j));
    }

    private boolean check() {
        boolean fine = text() && same("check()", finder.check(), model.check());
        for (int variable = -1; variable <= 3; variable++) {
            fine = fine && same("caseOf(" + variable + ")", finder.caseOf(variable), model.caseOf(variable));
        }
        return fine;
    }

    private boolean typeAnything() {
        long characters = random.nextLong();
        int n = random.nextInt(12) - 2;
        return same("type(" + characters + ", " + n + ")", finder.type(characters, n), model.type(characters, n));
    }

    private boolean text() {
        String text = clause();
        if (random.nextInt(12) == 0) text = spoilt(text);
        return typed(text);
    }

    private boolean typed(String text) {
        for (int at = 0; at < text.length(); ) {
            int n = Math.min(text.length() - at, 1 + random.nextInt(8));
            long characters = random.nextInt(4) == 0 ? random.nextLong() : 0;
            for (int i = 0; i < n; i++) characters = characters << 8 | text.charAt(at + i);
            at += n;
            if (!same("type(" + characters + ", " + n + ") " + text, finder.type(characters, n),
                    model.type(characters, n))) {
                return false;
            }
        }
        return true;
    }

    private String spoilt(String text) {
        int at = random.nextInt(text.length() + 1);
        switch (random.nextInt(4)) {
            case 0: return text.substring(0, at);
            case 1: return text + pick("xyz|!=abP~");
            case 2: return text.substring(0, at) + pick("xyz|!=abcdPQRSe(") + text.substring(at);
            default: return at == text.length() ? "" : text.substring(0, at) + text.substring(at + 1);
        }
    }

    private String clause() {
        StringBuilder text = new StringBuilder();
        int literals = 1 + random.nextInt(3);
        for (int i = 0; i < literals; i++) {
            if (i > 0) text.append('|');
            if (random.nextInt(2) == 0) text.append('!');
            char head = random.nextInt(3) == 0 ? '=' : there("PQRS", '=');
            text.append(head);
            int terms = head == '=' ? 2 : arities["abcdPQRS".indexOf(head)];
            for (int k = 0; k < terms; k++) term(text, random.nextInt(4));
        }
        return text.toString();
    }

    private void term(StringBuilder text, int depth) {
        char head = depth == 0 ? pick("xyz") : there("abcd", pick("xxyz"));
        text.append(head);
        int terms = head >= 'x' ? 0 : arities["abcdPQRS".indexOf(head)];
        for (int k = 0; k < terms; k++) term(text, depth - 1);
    }

    private char there(String letters, char otherwise) {
        char letter = pick(letters);
        return arities["abcdPQRS".indexOf(letter)] >= 0 ? letter : otherwise;
    }

    private char pick(String letters) {
        return letters.charAt(random.nextInt(letters.length()));
    }

    private boolean same(String call, int got, int want) {
        calls.add(call + " answered " + got + (got == want ? "" : ", due is " + want));
        return got == want;
    }
}
