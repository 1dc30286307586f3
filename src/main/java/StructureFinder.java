import java.util.Arrays;

/** Small structures in which clauses hold, found by filling tables cell by cell. */
public final class StructureFinder {
    public static final int BAD = -1;
    public static final int NO = -2;
    public static final int FULL = -3;
    public static final int OUT = -4;

    private static final int WRONG = -100;
    private static final int MOST_CLAUSES = 8;
    private static final int MOST_CHARACTERS = 60;
    private static final int MOST_TRIES = 3000;
    private static final int MOST_BYTES = 8;
    private static final int GREATEST_SIZE = 4;
    private static final int GREATEST_ARITY = 2;
    private static final int VARIABLES = 3;

    /** The characters of a text as codes: a .. d are 0 .. 3, P .. S are 4 .. 7, then x, y, z and the signs. */
    private static final int FIRST_PREDICATE = 4;
    private static final int SYMBOLS = 8;
    private static final int FIRST_VARIABLE = SYMBOLS;
    private static final int EQUALS = FIRST_VARIABLE + VARIABLES;
    private static final int NOT = EQUALS + 1;
    private static final int OR = EQUALS + 2;
    private static final int NO_CODE = -1;

    private final Symbols symbols;
    private final Buffer buffer;
    private final Clauses held;
    private final Clause question;
    private final Tables tables;
    private final Look look;
    private final Search search;
    private final int[] brokenCase;
    private int foundSize;
    private boolean clausesChanged;

    public StructureFinder() {
        symbols = new Symbols();
        buffer = new Buffer();
        held = new Clauses();
        question = new Clause();
        tables = new Tables();
        look = new Look(symbols, tables);
        search = new Search(held, tables, look);
        brokenCase = new int[VARIABLES];
        foundSize = 0;
        clausesChanged = false;
    }

    public boolean symbol(char letter, int arity) {
        int code = codeOf(letter);
        if (code < 0 || code >= SYMBOLS || arity < Symbols.ABSENT || arity > GREATEST_ARITY) {
            return false;
        }
        symbols.define(code, arity);
        held.forgetAll();
        foundSize = 0;
        return true;
    }

    public int type(long characters, int n) {
        if (n < 1 || n > MOST_BYTES || !areAllVisible(characters, n)) {
            return BAD;
        }
        if (!buffer.hasRoomFor(n)) {
            return FULL;
        }
        for (int i = n - 1; i >= 0; i--) {
            buffer.append(byteAt(characters, i));
        }
        return buffer.length();
    }

    public int clause() {
        int place = held.free().read(buffer, symbols);
        buffer.empty();
        // A wrong text is told even when there is no room: the document names it before FULL.
        if (place != Clause.RIGHT) {
            return WRONG - place;
        }
        if (held.isFull()) {
            return FULL;
        }
        clausesChanged = true;
        return held.keepFree();
    }

    public int drop() {
        if (held.count() == 0) {
            return NO;
        }
        clausesChanged = true;
        return held.forgetLast();
    }

    public int find(int n) {
        search.countAnew();
        if (n < 1 || n > GREATEST_SIZE) {
            return BAD;
        }
        foundSize = 0;
        for (int tried = 1; tried <= n; tried++) {
            int end = search.begin(tried, symbols);
            if (end == OUT) {
                return OUT;
            }
            if (end == Search.FOUND) {
                foundSize = tried;
                clausesChanged = false;
                return tried;
            }
        }
        return 0;
    }

    public int more() {
        search.countAnew();
        if (foundSize == 0 || clausesChanged) {
            return NO;
        }
        int end = search.goOn();
        if (end != Search.FOUND) {
            foundSize = 0;
        }
        return end;
    }

    public int size() {
        return foundSize;
    }

    public int value(char letter, int i, int j) {
        int code = codeOf(letter);
        int arity = symbols.arityOf(code);
        if (foundSize == 0 || arity == Symbols.ABSENT) {
            return BAD;
        }
        int first = arity >= 1 ? i : 0;
        int second = arity >= 2 ? j : 0;
        if (!isArgument(first) || !isArgument(second)) {
            return BAD;
        }
        return tables.valueOf(Tables.cellOf(code, first, second));
    }

    public int tries() {
        return search.made();
    }

    public int check() {
        int place = question.read(buffer, symbols);
        buffer.empty();
        // A wrong text is told even without a structure, as in clause().
        if (place != Clause.RIGHT) {
            return WRONG - place;
        }
        if (foundSize == 0) {
            return NO;
        }
        return holdsInStructure() ? 1 : 0;
    }

    public int caseOf(int variable) {
        return variable < 0 || variable >= VARIABLES ? BAD : brokenCase[variable];
    }

    public int clauses() {
        return held.count();
    }

    private boolean holdsInStructure() {
        for (int x = 0; x < question.choices(0, foundSize); x++) {
            for (int y = 0; y < question.choices(1, foundSize); y++) {
                for (int z = 0; z < question.choices(2, foundSize); z++) {
                    if (look.isBroken(question, x, y, z)) {
                        brokenCase[0] = x;
                        brokenCase[1] = y;
                        brokenCase[2] = z;
                        return false;
                    }
                }
            }
        }
        return true;
    }

    private boolean isArgument(int number) {
        return number >= 0 && number < foundSize;
    }

    private static boolean areAllVisible(long characters, int n) {
        for (int i = 0; i < n; i++) {
            char c = byteAt(characters, i);
            if (c < 33 || c > 126) {
                return false;
            }
        }
        return true;
    }

    private static char byteAt(long characters, int i) {
        return (char) ((characters >>> (8 * i)) & 255L);
    }

    private static int codeOf(char c) {
        if (c >= 'a' && c <= 'd') {
            return c - 'a';
        }
        if (c >= 'P' && c <= 'S') {
            return FIRST_PREDICATE + (c - 'P');
        }
        if (c >= 'x' && c <= 'z') {
            return FIRST_VARIABLE + (c - 'x');
        }
        if (c == '=') {
            return EQUALS;
        }
        if (c == '!') {
            return NOT;
        }
        return c == '|' ? OR : NO_CODE;
    }

    private static boolean isFunction(int code) {
        return code >= 0 && code < FIRST_PREDICATE;
    }

    private static boolean isPredicate(int code) {
        return code >= FIRST_PREDICATE && code < SYMBOLS;
    }

    private static boolean isVariable(int code) {
        return code >= FIRST_VARIABLE && code < FIRST_VARIABLE + VARIABLES;
    }

    /** Which functions and predicates are there, and with which arities. */
    private static final class Symbols {
        static final int ABSENT = -1;

        private final int[] arities;

        Symbols() {
            arities = new int[SYMBOLS];
            Arrays.fill(arities, ABSENT);
        }

        void define(int code, int arity) {
            if (code >= 0 && code < SYMBOLS) {
                arities[code] = arity;
            }
        }

        int arityOf(int code) {
            return code < 0 || code >= SYMBOLS ? ABSENT : arities[code];
        }
    }

    /** The characters that were typed and not yet read. */
    private static final class Buffer {
        private final char[] characters;
        private int used;

        Buffer() {
            characters = new char[MOST_CHARACTERS];
            used = 0;
        }

        boolean hasRoomFor(int n) {
            return used + n <= MOST_CHARACTERS;
        }

        void append(char c) {
            if (used < MOST_CHARACTERS) {
                characters[used] = c;
                used++;
            }
        }

        int length() {
            return used;
        }

        char at(int place) {
            return place < 0 || place >= used ? ' ' : characters[place];
        }

        void empty() {
            used = 0;
        }
    }

    /** One clause as codes in the order of its text. */
    private static final class Clause {
        static final int RIGHT = -1;

        /** States of the reading; from 0 on a state is how many terms are still to come. */
        private static final int AT_LITERAL = -1;
        private static final int AT_ATOM = -2;
        private static final int REFUSED = -3;

        private final int[] codes;
        private final boolean[] has;
        private int length;

        Clause() {
            codes = new int[MOST_CHARACTERS];
            has = new boolean[VARIABLES];
            length = 0;
        }

        /** Becomes the clause of the text: RIGHT, or the place where the text is wrong. */
        int read(Buffer text, Symbols symbols) {
            forgetText();
            int state = AT_LITERAL;
            for (int place = 0; place < text.length(); place++) {
                int code = codeOf(text.at(place));
                state = after(state, code, symbols);
                if (state == REFUSED) {
                    return place;
                }
                keep(code);
            }
            return state == 0 ? RIGHT : text.length();
        }

        int length() {
            return length;
        }

        int codeAt(int place) {
            return place < 0 || place >= length ? NO_CODE : codes[place];
        }

        /** How many numbers a variable takes: one that the clause has not is 0 alone. */
        int choices(int variable, int n) {
            return variable >= 0 && variable < VARIABLES && has[variable] ? n : 1;
        }

        private void forgetText() {
            length = 0;
            for (int i = 0; i < VARIABLES; i++) {
                has[i] = false;
            }
        }

        private void keep(int code) {
            if (length < MOST_CHARACTERS) {
                codes[length] = code;
                length++;
            }
            if (isVariable(code)) {
                has[code - FIRST_VARIABLE] = true;
            }
        }

        private static int after(int state, int code, Symbols symbols) {
            if (state == AT_LITERAL && code == NOT) {
                return AT_ATOM;
            }
            if (state == AT_LITERAL || state == AT_ATOM) {
                return afterAtomBegins(code, symbols);
            }
            if (state == 0) {
                return code == OR ? AT_LITERAL : REFUSED;
            }
            return afterTermBegins(state, code, symbols);
        }

        private static int afterAtomBegins(int code, Symbols symbols) {
            if (code == EQUALS) {
                return 2;
            }
            boolean there = isPredicate(code) && symbols.arityOf(code) != Symbols.ABSENT;
            return there ? symbols.arityOf(code) : REFUSED;
        }

        private static int afterTermBegins(int owed, int code, Symbols symbols) {
            if (isVariable(code)) {
                return owed - 1;
            }
            boolean there = isFunction(code) && symbols.arityOf(code) != Symbols.ABSENT;
            return there ? owed - 1 + symbols.arityOf(code) : REFUSED;
        }
    }

    /** The clauses that there are, and one free row behind them: a text is read there even when they are full. */
    private static final class Clauses {
        private final Clause[] rows;
        private int used;

        Clauses() {
            rows = new Clause[MOST_CLAUSES + 1];
            for (int i = 0; i < rows.length; i++) {
                rows[i] = new Clause();
            }
            used = 0;
        }

        boolean isFull() {
            return used >= MOST_CLAUSES;
        }

        int count() {
            return used;
        }

        Clause at(int row) {
            return rows[row < 0 || row > MOST_CLAUSES ? MOST_CLAUSES : row];
        }

        Clause free() {
            return at(used);
        }

        int keepFree() {
            if (!isFull()) {
                used++;
            }
            return used;
        }

        int forgetLast() {
            if (used > 0) {
                used--;
            }
            return used;
        }

        void forgetAll() {
            used = 0;
        }
    }

    /** The cells of all symbols, their values, and their order for one size. */
    private static final class Tables {
        static final int MOST_CELLS = SYMBOLS * GREATEST_SIZE * GREATEST_SIZE;
        static final int NO_VALUE = -1;
        static final int NO_ARGUMENT = -1;

        private final int[] values;
        private final int[] order;
        private final int[] ranks;
        private final int[] greatestArguments;
        private int n;
        private int count;

        Tables() {
            values = new int[MOST_CELLS];
            order = new int[MOST_CELLS];
            ranks = new int[MOST_CELLS];
            greatestArguments = new int[MOST_CELLS];
            n = 0;
            count = 0;
        }

        static int cellOf(int code, int i, int j) {
            return (code * GREATEST_SIZE + i) * GREATEST_SIZE + j;
        }

        /** Lays all cells of the size in their order; none of them has a value then. */
        void lay(int size, Symbols symbols) {
            n = size;
            count = 0;
            Arrays.fill(values, NO_VALUE);
            for (int greatest = NO_ARGUMENT; greatest < size; greatest++) {
                for (int code = 0; code < SYMBOLS; code++) {
                    layCells(code, symbols.arityOf(code), greatest);
                }
            }
        }

        int count() {
            return count;
        }

        int sizeLaid() {
            return n;
        }

        int valueOf(int cell) {
            return cell < 0 || cell >= MOST_CELLS ? NO_VALUE : values[cell];
        }

        int rankOf(int cell) {
            return cell < 0 || cell >= MOST_CELLS ? 0 : ranks[cell];
        }

        int valueAt(int rank) {
            return isRank(rank) ? values[order[rank]] : NO_VALUE;
        }

        void putAt(int rank, int number) {
            if (isRank(rank)) {
                values[order[rank]] = number;
            }
        }

        boolean isFunctionAt(int rank) {
            return isRank(rank) && isFunction(order[rank] / (GREATEST_SIZE * GREATEST_SIZE));
        }

        int greatestArgumentAt(int rank) {
            return isRank(rank) ? greatestArguments[rank] : NO_ARGUMENT;
        }

        private boolean isRank(int rank) {
            return rank >= 0 && rank < count;
        }

        private void layCells(int code, int arity, int greatest) {
            if (arity == 0 && greatest == NO_ARGUMENT) {
                layCell(cellOf(code, 0, 0), greatest);
            }
            if (arity == 1 && greatest != NO_ARGUMENT) {
                layCell(cellOf(code, greatest, 0), greatest);
            }
            if (arity == 2) {
                layPairs(code, greatest);
            }
        }

        private void layPairs(int code, int greatest) {
            for (int i = 0; i <= greatest; i++) {
                for (int j = 0; j <= greatest; j++) {
                    if (i == greatest || j == greatest) {
                        layCell(cellOf(code, i, j), greatest);
                    }
                }
            }
        }

        private void layCell(int cell, int greatest) {
            if (count < MOST_CELLS && cell >= 0 && cell < MOST_CELLS) {
                order[count] = cell;
                ranks[cell] = count;
                greatestArguments[count] = greatest;
                count++;
            }
        }
    }

    /**
     * A look at one instance. The text is gone through from its right end, where a stack is enough to work out
     * terms that stand behind their functions, and left at the first cell without a value or true literal.
     */
    private static final class Look {
        static final int NONE_READ = -1;
        static final int NONE_MISSING = Tables.MOST_CELLS;

        private final Symbols symbols;
        private final Tables tables;
        private final int[] numbers;
        private final int[] stack;
        private int top;
        private boolean truth;
        private int greatestRead;
        private int missing;

        Look(Symbols symbols, Tables tables) {
            this.symbols = symbols;
            this.tables = tables;
            numbers = new int[VARIABLES];
            stack = new int[MOST_CHARACTERS];
            forgetLatest();
        }

        /** The greatest rank among the cells that the latest look read, NONE_READ if it read none. */
        int greatestRead() {
            return greatestRead;
        }

        /** The rank of the cell without a value that ended the latest look, NONE_MISSING if none did. */
        int missing() {
            return missing;
        }

        /** Whether the clause's instance with these numbers is broken. */
        boolean isBroken(Clause clause, int x, int y, int z) {
            forgetLatest();
            numbers[0] = x;
            numbers[1] = y;
            numbers[2] = z;
            for (int place = clause.length() - 1; place >= 0; place--) {
                int code = clause.codeAt(place);
                if (isVariable(code)) {
                    push(numbers[code - FIRST_VARIABLE]);
                } else if (code == EQUALS) {
                    truth = pop() == pop();
                } else if (code == NOT) {
                    truth = !truth;
                } else if (code == OR) {
                    if (truth) {
                        return false;
                    }
                } else if (!readCell(code)) {
                    return false;
                }
            }
            return !truth;
        }

        private void forgetLatest() {
            top = 0;
            truth = false;
            greatestRead = NONE_READ;
            missing = NONE_MISSING;
        }

        /** False when the cell of the symbol and the terms on the stack has no value. */
        private boolean readCell(int code) {
            int arity = symbols.arityOf(code);
            int first = arity >= 1 ? pop() : 0;
            int second = arity >= 2 ? pop() : 0;
            int cell = Tables.cellOf(code, first, second);
            int rank = tables.rankOf(cell);
            int number = tables.valueOf(cell);
            if (number == Tables.NO_VALUE) {
                missing = rank;
                return false;
            }
            greatestRead = Math.max(greatestRead, rank);
            if (isPredicate(code)) {
                truth = number == 1;
            } else {
                push(number);
            }
            return true;
        }

        private void push(int number) {
            if (top < MOST_CHARACTERS) {
                stack[top] = number;
                top++;
            }
        }

        private int pop() {
            if (top > 0) {
                top--;
            }
            return stack[top];
        }
    }

    /**
     * The search for one size. Of each instance it keeps what the latest look at it read and what was missing:
     * while neither of these cells changes, the instance is as it was and needs no new look.
     */
    private static final class Search {
        static final int NONE = 0;
        static final int FOUND = 1;

        private static final int INSTANCES = GREATEST_SIZE * GREATEST_SIZE * GREATEST_SIZE;
        /** The rank before all cells: no look reads less, so that every instance needs a look then. */
        private static final int NO_CELL = Look.NONE_READ;
        /** Each step is a try or goes back behind one, so that no call comes near it. */
        private static final int MOST_STEPS = 1000000;

        private final Clauses clauses;
        private final Tables tables;
        private final Look look;
        private final int[] greatestRead;
        private final int[] missing;
        /** The greatest value of a function's cell before the cell of each rank. */
        private final int[] greatestBefore;
        private int made;

        Search(Clauses clauses, Tables tables, Look look) {
            this.clauses = clauses;
            this.tables = tables;
            this.look = look;
            greatestRead = new int[MOST_CLAUSES * INSTANCES];
            missing = new int[MOST_CLAUSES * INSTANCES];
            greatestBefore = new int[Tables.MOST_CELLS + 1];
            made = 0;
        }

        void countAnew() {
            made = 0;
        }

        int made() {
            return made;
        }

        /** FOUND, NONE or OUT. */
        int begin(int n, Symbols symbols) {
            tables.lay(n, symbols);
            greatestBefore[0] = Tables.NO_VALUE;
            return isSomeBroken(NO_CELL) ? NONE : fill(0);
        }

        /** FOUND, NONE or OUT. */
        int goOn() {
            return fill(tables.count() - 1);
        }

        private int fill(int firstRank) {
            int rank = firstRank;
            for (int step = 0; step < MOST_STEPS; step++) {
                if (rank < 0) {
                    return NONE;
                }
                if (rank >= tables.count()) {
                    return FOUND;
                }
                int number = tables.valueAt(rank) + 1;
                if (number > limitAt(rank)) {
                    tables.putAt(rank, Tables.NO_VALUE);
                    rank--;
                } else if (made >= MOST_TRIES) {
                    return OUT;
                } else {
                    made++;
                    put(rank, number);
                    rank = isSomeBroken(rank) ? rank : rank + 1;
                }
            }
            return OUT;
        }

        private int limitAt(int rank) {
            if (!tables.isFunctionAt(rank)) {
                return 1;
            }
            int greatest = Math.max(tables.greatestArgumentAt(rank), greatestBefore[rank]);
            return Math.min(greatest + 1, tables.sizeLaid() - 1);
        }

        private void put(int rank, int number) {
            tables.putAt(rank, number);
            int before = greatestBefore[rank];
            greatestBefore[rank + 1] = tables.isFunctionAt(rank) ? Math.max(before, number) : before;
        }

        /** Whether an instance is broken now that the cell of this rank has another value. */
        private boolean isSomeBroken(int rank) {
            int n = tables.sizeLaid();
            for (int row = 0; row < clauses.count(); row++) {
                Clause clause = clauses.at(row);
                int xs = clause.choices(0, n);
                int ys = clause.choices(1, n);
                int zs = clause.choices(2, n);
                for (int x = 0; x < xs; x++) {
                    for (int y = 0; y < ys; y++) {
                        for (int z = 0; z < zs; z++) {
                            int instance = instanceOf(row, x, y, z);
                            if (needsLook(instance, rank)) {
                                if (look.isBroken(clause, x, y, z)) {
                                    return true;
                                }
                                greatestRead[instance] = look.greatestRead();
                                missing[instance] = look.missing();
                            }
                        }
                    }
                }
            }
            return false;
        }

        private static int instanceOf(int row, int x, int y, int z) {
            return ((row * GREATEST_SIZE + x) * GREATEST_SIZE + y) * GREATEST_SIZE + z;
        }

        private boolean needsLook(int instance, int rank) {
            return greatestRead[instance] >= rank || missing[instance] <= rank;
        }
    }
}
