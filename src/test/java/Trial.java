import java.util.ArrayList;
import java.util.List;
import java.util.function.Consumer;

/** A test of one sentence of the document: a new object, and each answer that is due from it. */
final class Trial {
    private static final String SYMBOLS = "abcdPQRS";
    /** The document says nothing about an object after its 512th call, so no test may ask for it. */
    private static final int MOST_CALLS = 512;

    private static int made = 0;
    private static int failed = 0;

    private final StructureFinder finder = new StructureFinder();
    private final List<String> calls = new ArrayList<>();
    private final String name;
    private boolean holds = true;

    private Trial(String name) {
        this.name = name;
    }

    static void trial(int promise, String sentence, Consumer<Trial> steps) {
        Trial trial = new Trial("promise " + promise + ", " + sentence);
        try {
            steps.accept(trial);
        } catch (RuntimeException thrown) {
            trial.fail("the call behind these threw " + thrown);
        }
        if (trial.calls.size() > MOST_CALLS) {
            trial.fail("the test asks " + trial.calls.size() + " calls of one object");
        }
        made++;
        failed += trial.holds ? 0 : 1;
    }

    /** A fault that no single call shows. */
    static void complain(String fault) {
        System.out.println(fault);
        failed++;
    }

    static void end() {
        System.out.println(failed == 0 ? made + " cases hold" : failed + " of " + made + " do not hold");
        if (failed != 0) {
            System.exit(1);
        }
    }

    /** What one call answered; a boolean counts 1 or 0. */
    final class Answer {
        private final int got;

        private Answer(String call, int got) {
            this.got = got;
            calls.add(call + " answered " + got);
        }

        void is(int want) {
            if (got != want) {
                fail("due is " + want);
            }
        }

        void is(boolean want) {
            is(want ? 1 : 0);
        }

        void isBad() {
            is(-1);
        }

        void isNo() {
            is(-2);
        }

        void isFull() {
            is(-3);
        }

        void isOut() {
            is(-4);
        }

        void isWrongAt(int place) {
            is(-100 - place);
        }
    }

    Answer symbol(char letter, int arity) {
        return new Answer("symbol((char) " + (int) letter + ", " + arity + ")", finder.symbol(letter, arity) ? 1 : 0);
    }

    Answer type(long characters, int n) {
        return new Answer("type(" + characters + ", " + n + ")", finder.type(characters, n));
    }

    Answer clause() {
        return new Answer("clause()", finder.clause());
    }

    Answer drop() {
        return new Answer("drop()", finder.drop());
    }

    Answer find(int n) {
        return new Answer("find(" + n + ")", finder.find(n));
    }

    Answer more() {
        return new Answer("more()", finder.more());
    }

    Answer size() {
        return new Answer("size()", finder.size());
    }

    Answer value(char letter, int i, int j) {
        String call = "value((char) " + (int) letter + ", " + i + ", " + j + ")";
        return new Answer(call, finder.value(letter, i, j));
    }

    Answer tries() {
        return new Answer("tries()", finder.tries());
    }

    Answer check() {
        return new Answer("check()", finder.check());
    }

    Answer caseOf(int variable) {
        return new Answer("caseOf(" + variable + ")", finder.caseOf(variable));
    }

    Answer clauses() {
        return new Answer("clauses()", finder.clauses());
    }

    /** Symbols as letters with arities: "a0 P2". */
    void symbols(String symbols) {
        for (String symbol : symbols.split(" ")) {
            symbol(symbol.charAt(0), symbol.charAt(1) - '0').is(true);
        }
    }

    /** Types the text, up to eight characters a call; there must be room for it. */
    void type(String text) {
        for (int at = 0; at < text.length(); at += 8) {
            String part = text.substring(at, Math.min(at + 8, text.length()));
            if (type(packed(part), part.length()).got < 0) {
                fail("the text can be typed");
            }
        }
    }

    Answer clause(String text) {
        type(text);
        return clause();
    }

    Answer check(String text) {
        type(text);
        return check();
    }

    /** The texts, with blanks between, become the first clauses. */
    void given(String texts) {
        int count = 0;
        for (String text : texts.split(" ")) {
            count++;
            clause(text).is(count);
        }
    }

    void caseIs(int x, int y, int z) {
        caseOf(0).is(x);
        caseOf(1).is(y);
        caseOf(2).is(z);
    }

    /** How many characters the buffer has: one more comes, and it tells. */
    void bufferHas(int count) {
        type('x', 1).is(count + 1);
    }

    /** All that can be seen without changing anything, but for the tries. */
    String look() {
        StringBuilder seen = new StringBuilder();
        int size = size().got;
        seen.append("size ").append(size).append(" clauses ").append(clauses().got);
        for (int variable = 0; variable < 3; variable++) {
            seen.append(" case ").append(caseOf(variable).got);
        }
        for (char letter : SYMBOLS.toCharArray()) {
            for (int i = 0; i < size; i++) {
                for (int j = 0; j < size; j++) {
                    seen.append(' ').append(letter).append(i).append(j).append(value(letter, i, j).got);
                }
            }
        }
        return seen.toString();
    }

    void looksAs(String before) {
        String now = look();
        if (!now.equals(before)) {
            fail("looked as: " + before + "\n    looks as: " + now);
        }
    }

    /** Something stands everywhere: symbols, a clause, a structure, its tries, a case, and =xy in the buffer. */
    String stand() {
        symbols("a0 b0 P1");
        given("!=ab");
        find(4).is(2);
        check("=xa|=yb|=za").is(0);
        caseIs(1, 0, 1);
        type("=xy");
        return look();
    }

    /** Nothing that stood was changed by the calls since. */
    void stillStands(String before) {
        looksAs(before);
        tries().is(7);
        check().is(0);
        caseIs(0, 1, 0);
        more().is(1);
        value('P', 0, 0).is(0);
        value('P', 1, 0).is(1);
        clause("=ab|Px").is(2);
    }

    static long packed(String text) {
        long characters = 0;
        for (char c : text.toCharArray()) {
            characters = characters << 8 | c;
        }
        return characters;
    }

    private void fail(String why) {
        if (holds) {
            System.out.println(name + ":");
            calls.forEach(call -> System.out.println("    " + call));
            System.out.println("    " + why);
        }
        holds = false;
    }
}
