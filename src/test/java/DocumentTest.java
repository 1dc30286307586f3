import java.io.IOException;
import java.nio.file.Files;
import java.nio.file.Path;
import java.util.ArrayList;
import java.util.List;
import java.util.function.Consumer;

/**
 * The document from its first line to its last: each sentence is quoted and has a test of its own, in its order.
 * At the end the quotes are held against the document: words that no test quotes are a sentence without a test.
 */
public final class DocumentTest {
    /** Three constants that differ: the least size is 3. */
    private static final String THREE = "!=ab !=ac !=bc";
    /** The numbers go round: a(0) = 1, a(1) = 2, a(2) = 0. */
    private static final String ROUND = "!=axx !=aaxx";
    /** All cells of WIDE are 0 in the only structure, which is of size 2, but that is seen at the last cell alone. */
    private static final String WIDE = "a0 b0 P2 Q2 R2 S2";
    private static final String SLOW = "!=ab !Pxy|Sbb !Qxy|Sbb !Rxy|Sbb !Sxy|Sbb !Sbb";
    private static final String NEVER = "!=ab Sbb !Sbb";
    private static final String EIGHT = "P =xx =yy =zz P|=xy P|=xz P|P =xx|P";

    private static final List<String> quotes = new ArrayList<>();

    public static void main(String[] args) throws IOException {
        whatItIs();
        symbolsAndTexts();
        buffer();
        structures();
        known();
        order();
        limits();
        search();
        tries();
        promise1();
        promise2();
        promise3();
        promise4();
        promise5();
        promise6();
        promise7();
        promise8();
        promise9();
        promise10();
        promise11();
        promise12();
        promise13();
        notPromised();
        everySentenceIsQuoted(Path.of(args[0]).resolve("../../../../../shared/DOC.md").normalize());
        Trial.end();
    }

    private static void says(int promise, String quote, Consumer<Trial> steps) {
        quotes.add(quote);
        Trial.trial(promise, "\"" + quote + "\"", steps);
    }

    private static void whatItIs() {
        says(6, "Small structures in which clauses hold:", t -> {
            t.symbols("a1 P1");
            t.given("Px|Pax !Px|!Pax !=aaxx");
            t.find(4).is(4);
            t.check("Px|Pax").is(1);
            t.check("!Px|!Pax").is(1);
            t.check("!=aaxx").is(1);
        });
        says(6, "tables of functions and predicates over 0 .. n - 1 are filled cell by cell,", t -> {
            t.symbols("a0 c0 b1 P2");
            t.find(1).is(1);
            t.tries().is(4);
            t.given("!=ac");
            t.find(4).is(2);
            t.tries().is(2 + 1 + 2 + (1 + 1) + (1 + 3));
        });
        says(6, "values that only change names are left out,", t -> {
            t.symbols("a0 b0 c0");
            t.given(THREE);
            t.find(4).is(3);
            t.value('a', 0, 0).is(0);
            t.value('b', 0, 0).is(1);
            t.value('c', 0, 0).is(2);
            t.more().is(0);
        });
        says(7, "and the first structure of the least size is told, with the next ones;", t -> {
            t.symbols("a0 b0 P1");
            t.given("!=ab Pa|Pb");
            t.find(4).is(2);
            for (int number = 1; number <= 3; number++) {
                t.value('P', 0, 0).is(number >> 1);
                t.value('P', 1, 0).is(number & 1);
                t.more().is(number < 3 ? 1 : 0);
            }
        });
        says(11, "clauses are looked at in it.", t -> {
            t.symbols("a0 b0 P1");
            t.given("!=ab Pa|Pb");
            t.find(4).is(2);
            t.check("Pb").is(1);
            t.check("Pa").is(0);
        });
        says(1, "An object is used for at most 512 calls after it has been made;"
                + " what later calls answer is free.", t -> {
            t.symbols("P0");
            t.clause("P").is(1);
            for (int call = 4; call <= 512; call++) {
                t.find(1).is(1);
            }
        });
    }

    private static void symbolsAndTexts() {
        says(2, "FUNCTIONS a, b, c, d and PREDICATES P, Q, R, S are there with an ARITY 0 .. 2, or not"
                + " (at first none is).", t -> {
            for (char letter : "abcdPQRS".toCharArray()) {
                String text = letter >= 'a' ? "=x" + letter : "" + letter;
                t.clause(text + "xx").isWrongAt(text.length() - 1);
                for (int arity = 0; arity <= 2; arity++) {
                    t.symbol(letter, arity).is(true);
                    t.clause(text + "xx".substring(0, arity)).is(1);
                    t.clause(text + "xxx").isWrongAt(text.length() + arity);
                }
                t.symbol(letter, -1).is(true);
                t.clause(text).isWrongAt(text.length() - 1);
            }
        });
        says(3, "TEXTS have no blanks.", t -> {
            t.type(' ', 1).isBad();
            t.type(Trial.packed("=x y"), 4).isBad();
            t.type(Trial.packed("=xy "), 4).isBad();
            t.bufferHas(0);
        });
        says(4, "A TERM is a variable x, y, z, or a function that is there and as many terms as its arity;", t -> {
            t.symbols("a0 b1 c2");
            t.clause("=xy").is(1);
            t.clause("=za").is(2);
            t.clause("=bxbbby").is(3);
            t.clause("=caacbxccyza").is(4);
            t.clause("=xd").isWrongAt(2);
            t.clause("=xw").isWrongAt(2);
            t.clause("=ccxyz").isWrongAt(6);
            t.clause("=cxbyab").isWrongAt(6);
        });
        says(4, "an ATOM is = and two terms, or a predicate that is there and as many terms as its arity;", t -> {
            t.symbols("b1 P0 Q1 R2");
            t.clause("=bxy").is(1);
            t.clause("P").is(2);
            t.clause("Qbz").is(3);
            t.clause("Rbxbby").is(4);
            t.clause("=x").isWrongAt(2);
            t.clause("=xyz").isWrongAt(3);
            t.clause("S").isWrongAt(0);
            t.clause("PP").isWrongAt(1);
            t.clause("QP").isWrongAt(1);
            t.clause("Rx").isWrongAt(2);
            t.clause("b").isWrongAt(0);
        });
        says(4, "a LITERAL is an atom, or ! and an atom;", t -> {
            t.symbols("P0 Q1");
            t.clause("P").is(1);
            t.clause("!P").is(2);
            t.clause("!Qx").is(3);
            t.clause("!=xy").is(4);
            t.clause("!!P").isWrongAt(1);
            t.clause("!").isWrongAt(1);
            t.clause("!x").isWrongAt(1);
        });
        says(4, "a CLAUSE is one or more literals with | between.", t -> {
            t.symbols("P0");
            t.clause("P").is(1);
            t.clause("P|!P|=xy|P").is(2);
            t.clause("").isWrongAt(0);
            t.clause("|P").isWrongAt(0);
            t.clause("P|").isWrongAt(2);
            t.clause("P||P").isWrongAt(2);
            t.clause("P=xy").isWrongAt(1);
        });
    }

    private static void buffer() {
        says(3, "THE BUFFER has at most 60 characters.", t -> {
            t.symbols("P0");
            t.type("P|".repeat(29));
            t.type('!', 1).is(59);
            t.type('P', 1).is(60);
            t.type('P', 1).isFull();
            t.clause().is(1);
        });
        says(4, "A call that reads it empties it.", t -> {
            t.symbols("P0");
            t.clause("P").is(1);
            t.bufferHas(0);
            t.clause().isWrongAt(0);
            t.find(1).is(1);
            t.check("P").is(1);
            t.check("!P").is(0);
            t.bufferHas(0);
            t.check().isWrongAt(0);
            t.bufferHas(0);
        });
        says(4, "A text is WRONG at the first place (how many characters before it) with whose character no clause"
                + " goes on,", t -> {
            t.symbols("b1 R2");
            t.clause("x").isWrongAt(0);
            t.clause("=|").isWrongAt(1);
            t.clause("Rb!").isWrongAt(2);
            t.clause("=xyP").isWrongAt(3);
            t.clause("=xy|x~~").isWrongAt(4);
            t.clause("Rbxbyz|Z").isWrongAt(5);
        });
        says(4, "or at its end when it is not at an end there.", t -> {
            t.symbols("b1 R2");
            t.clause("").isWrongAt(0);
            t.clause("R").isWrongAt(1);
            t.clause("Rb").isWrongAt(2);
            t.clause("Rbx").isWrongAt(3);
            t.clause("Rbxy|").isWrongAt(5);
            t.clause("Rbxy|!").isWrongAt(6);
        });
    }

    private static void structures() {
        says(9, "A STRUCTURE of size n, 1 .. 4, has a CELL for each function or predicate that is there and each choice"
                + " of as many ARGUMENTS 0 .. n - 1 as its arity;", t -> {
            t.symbols("a0 b1 c2 P0 Q1 R2");
            t.given("!=bxx =cxyy P Qx Rxy");
            t.find(4).is(2);
            t.value('a', 0, 0).is(0);
            t.value('P', 0, 0).is(1);
            for (int i = 0; i < 2; i++) {
                t.value('b', i, 0).is(1 - i);
                t.value('Q', i, 0).is(1);
                for (int j = 0; j < 2; j++) {
                    t.value('c', i, j).is(j);
                    t.value('R', i, j).is(1);
                }
            }
            t.value('b', 2, 0).isBad();
            t.value('R', 0, 2).isBad();
        });
        says(9, "a function's cell has a VALUE 0 .. n - 1, a predicate's 0 or 1.", t -> {
            t.symbols("a0 b0 c0 d0 P0 Q0");
            t.given(THREE + " !=ad !=bd !=cd Q");
            t.find(4).is(4);
            t.value('a', 0, 0).is(0);
            t.value('d', 0, 0).is(3);
            t.value('P', 0, 0).is(0);
            t.value('Q', 0, 0).is(1);
        });
        says(6, "An INSTANCE of a clause gives its variables numbers 0 .. n - 1.", t -> {
            t.symbols("a0 b0 c0 R2");
            t.given(THREE + " Rxy");
            t.find(4).is(3);
            for (int i = 0; i < 9; i++) {
                t.value('R', i / 3, i % 3).is(1);
            }
            t.more().is(0);
        });
    }

    private static void known() {
        says(6, "With the cells that have values so far, a term of an instance is KNOWN when it is a variable, or its"
                + " own terms are known and their cell has a value: it is that.", t -> {
            // Nothing is known while P, which comes before b, gets its values; b(b(a)) needs the cell of b(a).
            t.symbols("a0 b1 P0");
            t.given("!=bbaba");
            t.find(1).is(0);
            t.tries().is(1 + 2 + 2);
            t.find(2).is(2);
            t.tries().is(5 + (1 + 1 + (1 + 1) + 1));
            t.value('b', 0, 0).is(1);
            t.value('b', 1, 0).is(0);
        });
        says(6, "= of two known terms is known: true when they are the same;", t -> {
            t.symbols("a0 b0");
            t.given("=ab");
            t.find(1).is(1);
            t.drop().is(0);
            t.given("!=ab");
            t.find(1).is(0);
            t.find(2).is(2);
            t.check("=ab").is(0);
            t.check("=ba").is(0);
            t.check("=aa").is(1);
        });
        says(6, "a predicate of known terms whose cell has a value is known: true when that is 1;", t -> {
            t.symbols("b1 P1");
            t.given("Pbx");
            t.find(1).is(1);
            t.tries().is(1 + 2);
            t.value('P', 0, 0).is(1);
            t.check("Px").is(1);
            t.check("!Px").is(0);
        });
        says(6, "! of what is known is known.", t -> {
            // P with 1 breaks it at once, so that Q has no turn behind that.
            t.symbols("P0 Q0");
            t.given("!P");
            t.find(1).is(1);
            t.more().is(1);
            t.more().is(0);
            t.tries().is(1);
        });
        says(6, "An instance is BROKEN when all its literals are known and false.", t -> {
            t.symbols("P0 Q0 R0");
            t.given("P|Q|R");
            t.find(1).is(1);
            t.tries().is(1 + 1 + 2);
            t.value('R', 0, 0).is(1);
            t.check("P|Q").is(0);
            t.check("P|R").is(1);
        });
    }

    /** The later of two cells is the one that more() changes first; two constants make the size 2. */
    private static void says(String quote, String symbols, String texts, String first, String later) {
        says(6, quote, t -> {
            t.symbols(symbols);
            t.given(texts);
            t.find(4).is(2);
            for (int number = 0; number < 4; number++) {
                t.value(first.charAt(0), first.charAt(1) - '0', first.charAt(2) - '0').is(number >> 1);
                t.value(later.charAt(0), later.charAt(1) - '0', later.charAt(2) - '0').is(number & 1);
                t.more().is(number < 3 ? 1 : 0);
            }
        });
    }

    private static void order() {
        says("CELLS ARE IN ORDER by the greatest of their arguments", "a0 b0 P2 Q1", "!=ab !Paa !Pba !Pbb !Qb",
                "Q00", "P01");
        says("(those without arguments come first),", "a0 b0 d1 S0", "!=ab =dba", "S00", "d00");
        says("of these functions before predicates,", "a0 b0 d1 P1", "!=ab =dba !Pb", "d00", "P00");
        says("then by letters,", "a0 b0 R1 Q2", "!=ab !Rb !Qbx !Qab", "Q00", "R00");
        says("then by the first argument,", "a0 b0 R2", "!=ab !Raa !Rbb", "R01", "R10");
        says("then by the second one.", "a0 b0 R2", "!=ab !Rax", "R10", "R11");
    }

    private static void limits() {
        says(6, "THE LIMIT of a function's cell is one more than the greatest among its own arguments and the values of"
                + " all functions' cells before it", t -> {
            t.symbols("a1 b1");
            t.given(ROUND + " !=bxx !=bxax");
            t.find(4).is(3);
            t.value('a', 0, 0).is(1);
            t.value('b', 0, 0).is(2);
            t.value('a', 1, 0).is(2);
            t.value('b', 1, 0).is(0);
            t.more().is(0);
        });
        says(6, "(0 when there is no such number),", t -> {
            t.symbols("a0 P0");
            t.given("!=aa");
            t.find(4).is(0);
            t.tries().is(4);
        });
        says(6, "but n - 1 at most;", t -> {
            t.symbols("a0 b0 c0 d0");
            t.find(1).is(1);
            t.more().is(0);
            t.tries().is(0);
            t.given("!=ab");
            t.find(4).is(2);
            for (int number = 1; number < 4; number++) {
                t.more().is(1);
                t.value('c', 0, 0).is(number >> 1);
                t.value('d', 0, 0).is(number & 1);
            }
            t.more().is(0);
        });
        says(6, "a predicate's limit is 1.", t -> {
            t.symbols("a0 b0 c0 P1");
            t.given(THREE + " Px !Px");
            t.find(4).is(0);
            int constants = 1 + 2 + 3;
            t.tries().is((1 + 1) + (1 + 2 + 2) + (constants + 2) + (constants + 2));
        });
    }

    private static void search() {
        says(6, "THE SEARCH for a size: if an instance is broken without any cell, there is none.", t -> {
            t.symbols("a0 P1");
            t.given("!=xx");
            t.find(4).is(0);
            t.tries().is(0);
        });
        says(6, "Else the cells are filled in their order:", t -> {
            t.symbols("P0 Q0 R0");
            t.given("P Q|R");
            t.find(1).is(1);
            t.tries().is(2 + 1 + 2);
            t.value('P', 0, 0).is(1);
            t.value('Q', 0, 0).is(0);
            t.value('R', 0, 0).is(1);
        });
        says(6, "a cell gets 0, 1, .. up to its limit, one after the other;", t -> {
            t.symbols("a0 b0 c0 d0");
            t.given(THREE);
            t.find(4).is(3);
            for (int number = 0; number < 3; number++) {
                t.value('d', 0, 0).is(number);
                t.more().is(number < 2 ? 1 : 0);
            }
        });
        says(10, "each of these is a TRY;", t -> {
            t.symbols("P0 Q0");
            t.given("P Q");
            t.find(1).is(1);
            t.tries().is(2 + 2);
        });
        says(6, "when no instance is broken then, it is the next cell's turn.", t -> {
            t.symbols("P0 Q0 R0");
            t.given("!P Q");
            t.find(1).is(1);
            t.tries().is(1 + 2 + 1);
        });
        says(6, "When a cell has had all, it has no value again, and it is the turn of the one before, which gets its"
                + " next value.", t -> {
            t.symbols("P0 Q0 R0");
            t.given("P|Q|R P|Q|!R P|!Q");
            t.find(1).is(1);
            t.tries().is(1 + (1 + 2) + 1 + 1 + (1 + 1));
            t.value('P', 0, 0).is(1);
            t.value('Q', 0, 0).is(0);
            t.value('R', 0, 0).is(0);
        });
        says(6, "When all cells have values, that is the structure;", t -> {
            t.find(1).is(1);
            t.symbols("a2 P2");
            t.find(4).is(1);
            t.tries().is(2);
            t.value('a', 0, 0).is(0);
            t.value('P', 0, 0).is(0);
        });
        says(7, "to search ON is to go on from there with the last cell's next value.", t -> {
            t.symbols("P0 Q0");
            t.find(1).is(1);
            t.more().is(1);
            t.tries().is(1);
            t.value('P', 0, 0).is(0);
            t.value('Q', 0, 0).is(1);
        });
    }

    private static void tries() {
        says(6, "One call makes at most 3000 tries: when it would need more it is OUT.", t -> {
            t.symbols(WIDE);
            t.given(SLOW);
            t.find(4).is(2);
            t.more().isOut();
            t.tries().is(3000);
            t.symbols(WIDE);
            t.given(NEVER);
            t.find(4).isOut();
            t.tries().is(3000);
            t.symbols("a0 b0 P2 Q1 R2 S2");
            t.given("!=ab Paa|Sxb !Sax|!Qa Rxb|!Sxa !Rax|!Sax !Sbb");
            t.find(4).is(2);
            t.tries().is(3000);
        });
        says(7, "The constants: `NO = -2`, `FULL = -3`, `OUT = -4`: It can't be done now.", t -> {
            t.drop().is(StructureFinder.NO);
            t.more().is(StructureFinder.NO);
            t.check("=xx").is(StructureFinder.NO);
            t.type("x".repeat(60));
            t.type('x', 1).is(StructureFinder.FULL);
            t.clause().isWrongAt(0);
            t.symbols(WIDE);
            t.given(NEVER);
            t.find(4).is(StructureFinder.OUT);
        });
    }

    private static void promise1() {
        says(1, "No functions, no predicates, no clauses, no structure.", t -> {
            for (char letter : "abcd".toCharArray()) {
                t.clause("=x" + letter).isWrongAt(2);
            }
            for (char letter : "PQRS".toCharArray()) {
                t.clause("" + letter).isWrongAt(0);
            }
            t.clauses().is(0);
            t.drop().isNo();
            t.size().is(0);
            t.more().isNo();
            t.check("=xx").isNo();
            t.tries().is(0);
            t.caseIs(0, 0, 0);
        });
    }

    private static void promise2() {
        says(2, "A function (letter a .. d) or predicate (P .. S) is there with an arity 0 .. 2, or, with -1, is not"
                + " there: true;", t -> {
            for (char letter : "abcdPQRS".toCharArray()) {
                for (int arity = -1; arity <= 2; arity++) {
                    t.symbol(letter, arity).is(true);
                    t.find(1).is(1);
                    t.value(letter, 0, 0).is(arity == -1 ? -1 : 0);
                    t.value(letter, 1, 0).is(arity == 0 ? 0 : -1);
                    t.value(letter, 0, 1).is(arity == 0 || arity == 1 ? 0 : -1);
                }
                t.symbol(letter, -1).is(true);
            }
        });
        says(2, "all clauses go, and there is no structure.", t -> {
            t.symbols("a0 P0");
            t.given("P =xa");
            t.find(1).is(1);
            t.symbol('b', 0).is(true);
            t.clauses().is(0);
            t.size().is(0);
            t.value('a', 0, 0).isBad();
            t.find(1).is(1);
            t.value('P', 0, 0).is(0);
            t.symbol('P', 0).is(true);
            t.size().is(0);
        });
        says(2, "False, and nothing is done, when letter or arity is another one.", t -> {
            String before = t.stand();
            for (char letter : "`eOTAxz=!|".toCharArray()) {
                t.symbol(letter, 0).is(false);
                t.symbol(letter, -1).is(false);
            }
            t.symbol('a', -2).is(false);
            t.symbol('a', 3).is(false);
            t.symbol('P', -2).is(false);
            t.symbol('P', 3).is(false);
            t.stillStands(before);
        });
    }

    private static void promise3() {
        says(3, "The lowest n bytes of characters, the highest of them first, come behind the buffer: how many it"
                + " has.", t -> {
            t.symbols("b1");
            t.type(0x213D62L, 3).is(3);
            t.type(0x0102030405067879L, 2).is(5);
            t.clause().is(1);
            t.find(2).is(0);
            t.drop().is(0);
            t.type(0x3D62627862626279L, 8).is(8);
            t.clause().is(1);
        });
        says(3, "BAD when n is not 1 .. 8 or one is not 33 .. 126;", t -> {
            t.type("=x");
            t.type('x', 0).isBad();
            t.type('x', 9).isBad();
            t.type(32, 1).isBad();
            t.type(127, 1).isBad();
            t.type(0x78787878FF787878L, 8).isBad();
            t.type('x', 1).is(3);
            t.clause().is(1);
            t.type(33, 1).is(1);
            t.type(126, 1).is(2);
        });
        says(3, "FULL when there would be more than 60.", t -> {
            t.symbols("P0");
            t.type("P|".repeat(28) + "P");
            t.type(Trial.packed("|P|P"), 4).isFull();
            t.type(Trial.packed("|=x"), 3).is(60);
            t.type('x', 1).isFull();
            t.clause().isWrongAt(60);
        });
    }

    private static void promise4() {
        says(4, "The buffer becomes one clause more: how many there are.", t -> {
            t.symbols("P0");
            t.clause("P").is(1);
            t.clauses().is(1);
            t.find(1).is(1);
            t.value('P', 0, 0).is(1);
            t.clause("P|=xx").is(2);
            t.clauses().is(2);
        });
        says(4, "-100 - the place when it is wrong;", t -> {
            t.symbols("P0");
            t.type(Trial.packed("P|Q"), 3).is(3);
            t.clause().is(-102);
            t.clause().is(-100);
            t.clause("P|".repeat(30)).is(-160);
            t.clauses().is(0);
        });
        says(4, "FULL when there are 8 (the buffer is emptied).", t -> {
            t.symbols("P0");
            t.given(EIGHT);
            t.clause("!P").isFull();
            t.bufferHas(0);
            t.clauses().is(8);
            t.clause().isWrongAt(0);
            t.find(1).is(1);
        });
    }

    private static void promise5() {
        says(5, "The last clause goes: how many are left;", t -> {
            t.symbols("P0");
            t.given("=xx P !P");
            t.find(4).is(0);
            t.drop().is(2);
            t.find(4).is(1);
            t.value('P', 0, 0).is(1);
            t.drop().is(1);
            t.find(4).is(1);
            t.value('P', 0, 0).is(0);
            t.drop().is(0);
        });
        says(5, "NO when there is none.", t -> {
            t.drop().isNo();
            t.given("=xx");
            t.drop().is(0);
            t.drop().isNo();
            t.clauses().is(0);
        });
    }

    private static void promise6() {
        says(6, "THE SEARCH for 1, 2, .. up to n, until there is one: its size, and it is THE STRUCTURE;", t -> {
            t.symbols("a1");
            t.find(4).is(1);
            t.given(ROUND);
            t.find(4).is(3);
            t.size().is(3);
            t.find(3).is(3);
            for (int i = 0; i < 3; i++) {
                t.value('a', i, 0).is((i + 1) % 3);
            }
        });
        says(6, "0 when there is none.", t -> {
            t.symbols("a1");
            t.given(ROUND);
            t.find(2).is(0);
            t.find(1).is(0);
            t.clause("=aaxx").is(3);
            t.find(4).is(0);
        });
        says(6, "BAD when n is not 1 .. 4.", t -> {
            String before = t.stand();
            t.find(0).isBad();
            t.find(5).isBad();
            t.find(-1).isBad();
            t.looksAs(before);
            t.more().is(1);
        });
        says(6, "OUT, or 0: there is no structure any more.", t -> {
            t.symbols(WIDE);
            t.find(4).is(1);
            t.given(NEVER);
            t.size().is(1);
            t.find(4).isOut();
            t.size().is(0);
            t.value('a', 0, 0).isBad();
            t.drop().is(2);
            t.drop().is(1);
            t.find(4).is(2);
            t.find(1).is(0);
            t.size().is(0);
            t.check("=ab").isNo();
        });
    }

    private static void promise7() {
        says(7, "The search of the latest find() goes ON behind THE STRUCTURE: 1, and the next one is THE"
                + " STRUCTURE;", t -> {
            t.symbols("P0 Q0");
            t.given("P|Q");
            t.find(4).is(1);
            t.more().is(1);
            t.value('P', 0, 0).is(1);
            t.value('Q', 0, 0).is(0);
            t.find(4).is(1);
            t.value('P', 0, 0).is(0);
            t.more().is(1);
            t.more().is(1);
            t.check("P").is(1);
            t.check("Q").is(1);
        });
        says(7, "0 when there is none, or OUT: then there is no structure any more.", t -> {
            t.symbols("P0");
            t.given("P");
            t.find(4).is(1);
            t.more().is(0);
            t.size().is(0);
            t.value('P', 0, 0).isBad();
            t.symbols(WIDE);
            t.given(SLOW);
            t.find(4).is(2);
            t.more().isOut();
            t.size().is(0);
            t.value('a', 0, 0).isBad();
        });
        says(7, "NO when there is no structure, or clauses came or went since it was found.", t -> {
            t.symbols("P0");
            t.more().isNo();
            t.find(1).is(1);
            t.clause("=xx").is(1);
            t.more().isNo();
            t.size().is(1);
            t.find(1).is(1);
            t.drop().is(0);
            t.more().isNo();
            t.size().is(1);
            t.find(1).is(1);
            t.more().is(1);
        });
    }

    private static void promise8() {
        says(8, "THE STRUCTURE's size;", t -> {
            t.symbols("a0 b0 c0");
            t.find(4).is(1);
            t.size().is(1);
            t.clause("!=ab").is(1);
            t.size().is(1);
            t.find(4).is(2);
            t.size().is(2);
            t.more().is(1);
            t.size().is(2);
        });
        says(8, "0 when there is none.", t -> {
            t.size().is(0);
            t.find(4).is(1);
            t.more().is(0);
            t.size().is(0);
            t.find(4).is(1);
            t.symbol('a', 0).is(true);
            t.size().is(0);
        });
    }

    private static void promise9() {
        says(9, "The value of the cell of a function or predicate in THE STRUCTURE;", t -> {
            t.symbols("a1 c2 R2");
            t.given(ROUND + " =cxyay Rxax !Rxx !Rxaax");
            t.find(4).is(3);
            for (int i = 0; i < 3; i++) {
                t.value('a', i, 0).is((i + 1) % 3);
                for (int j = 0; j < 3; j++) {
                    t.value('c', i, j).is((j + 1) % 3);
                    t.value('R', i, j).is(j == (i + 1) % 3);
                }
            }
        });
        says(9, "for lesser arities, j, or i and j, do not matter.", t -> {
            t.symbols("a0 b1 P0 Q1");
            t.given("!=bxx P Qa !Qba");
            t.find(4).is(2);
            for (int any : new int[] {-1, 0, 1, 2, Integer.MIN_VALUE, Integer.MAX_VALUE}) {
                t.value('a', any, any).is(0);
                t.value('P', any, any).is(1);
                t.value('b', 0, any).is(1);
                t.value('Q', 1, any).is(0);
            }
        });
        says(9, "BAD when there is no structure, it is none that is there, or i or j (where it matters) is no"
                + " argument.", t -> {
            t.symbols("b1 R2");
            t.value('b', 0, 0).isBad();
            t.given("!=bxx");
            t.find(4).is(2);
            for (char letter : "acdPQSexz=".toCharArray()) {
                t.value(letter, 0, 0).isBad();
            }
            for (int no : new int[] {-1, 2, 3}) {
                t.value('b', no, 0).isBad();
                t.value('R', no, 0).isBad();
                t.value('R', 0, no).isBad();
            }
        });
    }

    private static void promise10() {
        says(10, "How many tries the latest find() or more() made;", t -> {
            t.symbols("P0 Q0");
            t.given("P|Q");
            t.find(1).is(1);
            t.tries().is(1 + 2);
            t.more().is(1);
            t.tries().is(1 + 1);
            t.more().is(1);
            t.tries().is(1);
            t.more().is(0);
            t.tries().is(0);
            t.find(1).is(1);
            t.tries().is(3);
        });
        says(10, "0 before.", t -> {
            t.tries().is(0);
            t.symbols("P0");
            t.given("P");
            t.tries().is(0);
        });
        says(10, "(One that is OUT made 3000.)", t -> {
            t.symbols(WIDE);
            t.given(NEVER);
            t.find(4).isOut();
            t.tries().is(3000);
            t.symbols(WIDE);
            t.given(SLOW);
            t.find(4).is(2);
            t.tries().is(2 + (1 + 2) + 16);
            t.more().isOut();
            t.tries().is(3000);
        });
    }

    private static void promise11() {
        says(11, "The buffer is a clause that is looked at in THE STRUCTURE: 1 when none of its instances is"
                + " broken;", t -> {
            t.symbols("a1");
            t.given(ROUND);
            t.find(4).is(3);
            t.check("=aaaxx").is(1);
            t.check("=xy|=axy|=aaxy").is(1);
            t.check("!=axy|=aayx").is(1);
            t.clauses().is(2);
        });
        says(11, "0 when one is: the one with the least x, of these the least y, then z (0 for those that it has not)"
                + " is THE CASE.", t -> {
            t.symbols("a0 b0 c0");
            t.given(THREE);
            t.find(4).is(3);
            t.check("=xa|=ya|=yb|=za").is(0);
            t.caseIs(1, 2, 1);
            t.check("=xy|=yz|=xz").is(0);
            t.caseIs(0, 1, 2);
            t.check("!=yc|!=zb").is(0);
            t.caseIs(0, 2, 1);
            t.check("!=xc").is(0);
            t.caseIs(2, 0, 0);
            t.check("=ab").is(0);
            t.caseIs(0, 0, 0);
        });
        says(11, "-100 - the place when it is wrong;", t -> {
            t.symbols("P0");
            t.check("P|Q").is(-102);
            t.find(1).is(1);
            t.check("P|Q").is(-102);
            t.check("P|").is(-102);
            t.check().is(-100);
            t.caseIs(0, 0, 0);
        });
        says(11, "NO when there is no structure (the buffer is emptied).", t -> {
            t.symbols("P0");
            t.check("P").isNo();
            t.bufferHas(0);
            t.clause().isWrongAt(0);
            t.find(1).is(1);
            t.check("!P").is(1);
            t.more().is(1);
            t.more().is(0);
            t.check("!P").isNo();
        });
    }

    private static void promise12() {
        says(12, "The number of x, y, z (0, 1, 2) in THE CASE of the latest check() that answered 0;", t -> {
            t.symbols("a0 b0 c0");
            t.given(THREE);
            t.find(4).is(3);
            t.check("!=xb|!=yc|!=za").is(0);
            t.caseIs(1, 2, 0);
            t.check("=xx").is(1);
            t.check("=x").isWrongAt(2);
            t.caseIs(1, 2, 0);
            t.check("!=zc|!=xb").is(0);
            t.caseIs(1, 0, 2);
        });
        says(12, "0 before;", t -> {
            t.caseIs(0, 0, 0);
            t.symbols("a0 b0");
            t.given("!=ab");
            t.find(4).is(2);
            t.check("!=xy|!=xb|=yb").is(1);
            t.caseIs(0, 0, 0);
        });
        says(12, "BAD for others.", t -> {
            t.caseOf(-1).isBad();
            t.caseOf(3).isBad();
            t.stand();
            t.caseOf(-1).isBad();
            t.caseOf(3).isBad();
            t.caseOf('x').isBad();
        });
    }

    private static void promise13() {
        says(13, "How many clauses there are.", t -> {
            t.clauses().is(0);
            t.symbols("P0");
            t.given(EIGHT);
            t.clauses().is(8);
            t.clause("P").isFull();
            t.clauses().is(8);
            t.drop().is(7);
            t.clauses().is(7);
            t.clause("P|").isWrongAt(2);
            t.clauses().is(7);
            t.symbol('P', 3).is(false);
            t.clauses().is(7);
            t.symbol('P', 1).is(true);
            t.clauses().is(0);
        });
    }

    /** These leave the class free, so there is nothing in them that a test could ask for. */
    private static void notPromised() {
        quotes.add("How the state is held inside the object is free, as are the speed of each call, the text of"
                + " toString and the behaviour of equals and hashCode.");
        quotes.add("Use of one object from several threads at once is not promised to be safe.");
        quotes.add("Nothing is promised beyond the answers and state changes described above, and nothing about an"
                + " object after its 512th call.");
    }

    /** The face's lines are FaceTest's; headings and signatures are no sentences. */
    private static void everySentenceIsQuoted(Path document) throws IOException {
        if (!Files.exists(document)) {
            System.out.println("the quotes were not held against the document, it is not at " + document);
            return;
        }
        String text = Files.readString(document)
                .replaceAll("(?s)```.*?```", " ")
                .replaceAll("(?m)^#.*$", " ")
                .replaceAll("(?m)^`[^`]*\\)`:", " ")
                .replaceAll("\\s+", " ");
        int behind = 0;
        for (String quote : quotes) {
            int at = text.indexOf(quote, behind);
            if (at < 0) {
                Trial.complain("the document does not say here: " + quote);
                continue;
            }
            expectNoWords(text.substring(behind, at));
            behind = at + quote.length();
        }
        expectNoWords(text.substring(behind));
    }

    private static void expectNoWords(String between) {
        if (!between.isBlank()) {
            Trial.complain("no test quotes the document's words: " + between.strip());
        }
    }
}
