import java.util.ArrayList;
import java.util.Comparator;
import java.util.HashMap;
import java.util.List;
import java.util.Map;
import java.util.TreeMap;

/** The document put into the plainest code: every instance is looked at after every try, terms by recursion. */
final class PlainModel {
    private static final int BAD = -1;
    private static final int NO = -2;
    private static final int FULL = -3;
    private static final int OUT = -4;

    private record Cell(char letter, List<Integer> arguments) {
        int greatest() {
            return arguments.stream().mapToInt(Integer::intValue).max().orElse(-1);
        }
    }

    private static final class WrongAt extends RuntimeException {
        private static final long serialVersionUID = 1L;
        final int place;

        WrongAt(int place) {
            this.place = place;
        }
    }

    private final Map<Character, Integer> arities = new TreeMap<>();
    private final List<String> clauses = new ArrayList<>();
    private String buffer = "";
    private Map<Cell, Integer> values = new HashMap<>();
    private List<Cell> order = new ArrayList<>();
    private int searched;
    private int size;
    private boolean same;
    private int tries;
    private int[] theCase = {0, 0, 0};
    private String text;
    private int at;

    boolean symbol(char letter, int arity) {
        if ("abcdPQRS".indexOf(letter) < 0 || arity < -1 || arity > 2) return false;
        arities.remove(letter);
        if (arity >= 0) arities.put(letter, arity);
        clauses.clear();
        size = 0;
        return true;
    }

    int type(long characters, int n) {
        if (n < 1 || n > 8) return BAD;
        StringBuilder typed = new StringBuilder();
        for (int i = n - 1; i >= 0; i--) {
            int c = (int) ((characters >> (8 * i)) & 0xff);
            if (c < 33 || c > 126) return BAD;
            typed.append((char) c);
        }
        if (buffer.length() + n > 60) return FULL;
        buffer += typed;
        return buffer.length();
    }

    int clause() {
        String read = buffer;
        buffer = "";
        int place = wrongPlace(read);
        if (place >= 0) return -100 - place;
        if (clauses.size() == 8) return FULL;
        clauses.add(read);
        same = false;
        return clauses.size();
    }

    int drop() {
        if (clauses.isEmpty()) return NO;
        clauses.remove(clauses.size() - 1);
        same = false;
        return clauses.size();
    }

    int find(int n) {
        tries = 0;
        if (n < 1 || n > 4) return BAD;
        size = 0;
        for (int s = 1; s <= n; s++) {
            searched = s;
            values = new HashMap<>();
            order = cells(s);
            if (someBroken()) continue;
            int end = search(0);
            if (end == OUT) return OUT;
            if (end == 1) {
                size = s;
                same = true;
                return s;
            }
        }
        return 0;
    }

    int more() {
        tries = 0;
        if (size == 0 || !same) return NO;
        int end = search(order.size() - 1);
        if (end != 1) size = 0;
        return end;
    }

    int size() {
        return size;
    }

    int value(char letter, int i, int j) {
        if (size == 0 || !arities.containsKey(letter)) return BAD;
        List<Integer> arguments = List.of(i, j).subList(0, arities.get(letter));
        Integer number = values.get(new Cell(letter, arguments));
        return number == null ? BAD : number;
    }

    int tries() {
        return tries;
    }

    int check() {
        String read = buffer;
        buffer = "";
        int place = wrongPlace(read);
        if (place >= 0) return -100 - place;
        if (size == 0) return NO;
        int[] broken = firstBroken(read, size);
        if (broken == null) return 1;
        theCase = broken;
        return 0;
    }

    int caseOf(int variable) {
        return variable >= 0 && variable <= 2 ? theCase[variable] : BAD;
    }

    int clauses() {
        return clauses.size();
    }

    private List<Cell> cells(int n) {
        List<Cell> all = new ArrayList<>();
        for (Map.Entry<Character, Integer> there : arities.entrySet()) {
            char letter = there.getKey();
            if (there.getValue() == 0) all.add(new Cell(letter, List.of()));
            for (int i = 0; i < n; i++) {
                if (there.getValue() == 1) all.add(new Cell(letter, List.of(i)));
                for (int j = 0; j < n; j++) {
                    if (there.getValue() == 2) all.add(new Cell(letter, List.of(i, j)));
                }
            }
        }
        all.sort(Comparator.comparing(Cell::greatest)
                .thenComparing(c -> !isFunction(c))
                .thenComparing(Cell::letter)
                .thenComparing(c -> c.arguments().isEmpty() ? 0 : c.arguments().get(0))
                .thenComparing(c -> c.arguments().size() < 2 ? 0 : c.arguments().get(1)));
        return all;
    }

    private static boolean isFunction(Cell cell) {
        return cell.letter() >= 'a';
    }

    private int limit(int index) {
        Cell cell = order.get(index);
        if (!isFunction(cell)) return 1;
        List<Integer> numbers = new ArrayList<>(cell.arguments());
        for (Cell before : order.subList(0, index)) {
            if (isFunction(before)) numbers.add(values.get(before));
        }
        if (numbers.isEmpty()) return 0;
        return Math.min(searched - 1, 1 + numbers.stream().mapToInt(Integer::intValue).max().getAsInt());
    }

    private int search(int from) {
        int index = from;
        while (index >= 0 && index < order.size()) {
            Cell cell = order.get(index);
            int next = values.containsKey(cell) ? values.get(cell) + 1 : 0;
            values.remove(cell);
            if (next > limit(index)) {
                index--;
                continue;
            }
            if (tries == 3000) return OUT;
            tries++;
            values.put(cell, next);
            if (!someBroken()) index++;
        }
        return index < 0 ? 0 : 1;
    }

    private boolean someBroken() {
        for (String clause : clauses) {
            if (firstBroken(clause, searched) != null) return true;
        }
        return false;
    }

    private int[] firstBroken(String clause, int n) {
        for (int x = 0; x < (clause.contains("x") ? n : 1); x++) {
            for (int y = 0; y < (clause.contains("y") ? n : 1); y++) {
                for (int z = 0; z < (clause.contains("z") ? n : 1); z++) {
                    int[] numbers = {x, y, z};
                    if (isBroken(clause, numbers)) return numbers;
                }
            }
        }
        return null;
    }

    private boolean isBroken(String clause, int[] numbers) {
        for (String literal : clause.split("\\|")) {
            boolean negated = literal.startsWith("!");
            text = literal;
            at = negated ? 1 : 0;
            char head = text.charAt(at++);
            Boolean truth;
            if (head == '=') {
                Integer left = term(numbers);
                Integer right = term(numbers);
                truth = left == null || right == null ? null : (Boolean) left.equals(right);
            } else {
                Integer number = cellValue(head, numbers);
                truth = number == null ? null : (Boolean) (number == 1);
            }
            if (truth == null || truth != negated) return false;
        }
        return true;
    }

    private Integer term(int[] numbers) {
        char head = text.charAt(at++);
        return head >= 'x' ? (Integer) numbers[head - 'x'] : cellValue(head, numbers);
    }

    private Integer cellValue(char head, int[] numbers) {
        List<Integer> arguments = new ArrayList<>();
        boolean known = true;
        for (int i = 0; i < arities.get(head); i++) {
            Integer argument = term(numbers);
            known &= argument != null;
            arguments.add(argument);
        }
        return known ? values.get(new Cell(head, arguments)) : null;
    }

    private int wrongPlace(String read) {
        text = read;
        at = 0;
        try {
            readLiteral();
            while (at < text.length()) {
                want("|");
                readLiteral();
            }
            return -1;
        } catch (WrongAt wrong) {
            return wrong.place;
        }
    }

    private char want(String allowed) {
        if (at == text.length() || allowed.indexOf(text.charAt(at)) < 0) throw new WrongAt(at);
        return text.charAt(at++);
    }

    private void readLiteral() {
        char head = want("!=" + there("PQRS"));
        if (head == '!') head = want("=" + there("PQRS"));
        int terms = head == '=' ? 2 : arities.get(head);
        for (int i = 0; i < terms; i++) readTerm();
    }

    private void readTerm() {
        char head = want("xyz" + there("abcd"));
        int terms = head >= 'x' ? 0 : arities.get(head);
        for (int i = 0; i < terms; i++) readTerm();
    }

    private String there(String letters) {
        StringBuilder found = new StringBuilder();
        for (char letter : letters.toCharArray()) {
            if (arities.containsKey(letter)) found.append(letter);
        }
        return found.toString();
    }
}
