/** The boundary cases of the promises on symbols, the buffer and the clauses: 1 to 5 and 13. */
public final class TextBoundariesTest {
    private static final String FUNCTIONS = "abcd";
    private static final String PREDICATES = "PQRS";
    private static final int LEAST = Integer.MIN_VALUE;
    private static final int GREATEST = Integer.MAX_VALUE;
    private static final String EIGHT = "P !P|P P|P !P|!P|P P|P|P =xx P|=xx =xx|P";

    public static void main(String[] args) {
        newObject();
        symbolLetters();
        symbolArities();
        symbolTrue();
        symbolFalse();
        typeCounts();
        typeBytes();
        typeFull();
        clauseCounts();
        clauseWrongAtLiterals();
        clauseWrongAtTerms();
        clauseWrongAtEnds();
        clauseWrongChanges();
        clauseFull();
        dropCounts();
        dropRefused();
        clausesCounted();
        Trial.end();
    }

    private static void newObject() {
        Trial.trial(1, "no functions", t -> {
            for (char letter : FUNCTIONS.toCharArray()) {
                t.clause("=" + letter).isWrongAt(1);
                t.value(letter, 0, 0).isBad();
            }
        });
        Trial.trial(1, "no predicates", t -> {
            for (char letter : PREDICATES.toCharArray()) {
                t.clause("" + letter).isWrongAt(0);
                t.value(letter, 0, 0).isBad();
            }
        });
        Trial.trial(1, "no clauses", t -> {
            t.clauses().is(0);
            t.drop().isNo();
        });
        Trial.trial(1, "no structure", t -> {
            t.size().is(0);
            t.more().isNo();
            t.check("=xx").isNo();
        });
        Trial.trial(1, "nothing in the buffer", t -> t.bufferHas(0));
        Trial.trial(1, "no cells: the structure without any is there at once", t -> {
            t.find(1).is(1);
            t.tries().is(0);
        });
        Trial.trial(1, "the 512th call is still answered", t -> {
            t.symbols("P0");
            for (int i = 0; i < 102; i++) {
                t.clause("P").is(1);
                t.find(1).is(1);
                t.tries().is(2);
                t.drop().is(0);
            }
            t.find(1).is(1);
        });
    }

    private static void symbolLetters() {
        for (char letter : "adPS".toCharArray()) {
            Trial.trial(2, letter + " is the first or the last one", t -> t.symbol(letter, 0).is(true));
        }
        for (char letter : "`eOT".toCharArray()) {
            Trial.trial(2, letter + " is just beside the letters", t -> {
                for (int arity = -1; arity <= 2; arity++) {
                    t.symbol(letter, arity).is(false);
                }
            });
        }
        for (char letter : "ADpsxyz=!|0".toCharArray()) {
            Trial.trial(2, letter + " is another one", t -> t.symbol(letter, 1).is(false));
        }
        for (int letter : new int[] {0, 1, 'a' + 256, 'd' + 256, 'P' + 256, 'S' + 512, 'a' + 32768, 65535}) {
            Trial.trial(2, "letter " + letter + " is another one", t -> {
                t.symbol((char) letter, 0).is(false);
                t.symbol((char) letter, -1).is(false);
            });
        }
    }

    private static void symbolArities() {
        for (int arity : new int[] {-2, 3, 4, 256, 255, 65536, -256, LEAST, LEAST + 1, GREATEST}) {
            Trial.trial(2, "arity " + arity + " is another one", t -> {
                t.symbol('a', arity).is(false);
                t.symbol('S', arity).is(false);
                t.clause("=aa").isWrongAt(1);
                t.clause("S").isWrongAt(0);
            });
        }
        Trial.trial(2, "arity 0 is the first for a function", t -> {
            t.symbol('a', 0).is(true);
            t.clause("=axx").isWrongAt(3);
            t.clause("=ax").is(1);
        });
        Trial.trial(2, "arity 0 is the first for a predicate", t -> {
            t.symbol('P', 0).is(true);
            t.clause("Px").isWrongAt(1);
            t.clause("P").is(1);
        });
        Trial.trial(2, "arity 1", t -> {
            t.symbols("a1 P1");
            t.clause("=ax").isWrongAt(3);
            t.clause("=axx").is(1);
            t.clause("Pxx").isWrongAt(2);
            t.clause("Px").is(2);
        });
        Trial.trial(2, "arity 2 is the last for a function", t -> {
            t.symbol('d', 2).is(true);
            t.clause("=dxx").isWrongAt(4);
            t.clause("=dxxx").is(1);
        });
        Trial.trial(2, "arity 2 is the last for a predicate", t -> {
            t.symbol('S', 2).is(true);
            t.clause("Sx").isWrongAt(2);
            t.clause("Sxxx").isWrongAt(3);
            t.clause("Sxx").is(1);
        });
        Trial.trial(2, "with -1 it is not there", t -> {
            t.symbols("a1 P1");
            t.symbol('a', -1).is(true);
            t.clause("Pa").isWrongAt(1);
            t.symbol('P', -1).is(true);
            t.clause("Px").isWrongAt(0);
        });
        Trial.trial(2, "one with -1 does not take others away", t -> {
            t.symbols("a0 b0 P0 Q0");
            t.symbol('b', -1).is(true);
            t.symbol('Q', -1).is(true);
            t.clause("=aa|P").is(1);
        });
        Trial.trial(2, "all eight with two terms each", t -> {
            t.symbols("a2 b2 c2 d2 P2 Q2 R2 S2");
            t.clause("Paxybyz|Qcxydzz|Rxy|!Sxy").is(1);
        });
        Trial.trial(2, "the latest arity is the one", t -> {
            t.symbols("a2 a0 a1");
            t.clause("=axx").is(1);
            t.find(2).is(1);
            t.value('a', 0, 9).is(0);
            t.value('a', 1, 0).isBad();
        });
    }

    private static void symbolTrue() {
        for (int arity = -1; arity <= 2; arity++) {
            int given = arity;
            Trial.trial(2, "all of 8 clauses go with arity " + given, t -> {
                t.symbols("P0");
                t.given(EIGHT);
                t.symbol('d', given).is(true);
                t.clauses().is(0);
                t.drop().isNo();
                t.clause("P").is(1);
            });
            Trial.trial(2, "there is no structure with arity " + given, t -> {
                t.symbols("P0");
                t.find(1).is(1);
                t.symbol('d', given).is(true);
                t.size().is(0);
                t.value('P', 0, 0).isBad();
                t.more().isNo();
                t.check("P").isNo();
            });
        }
        Trial.trial(2, "the arity that it has counts too", t -> {
            t.symbols("P0");
            t.given("P");
            t.find(1).is(1);
            t.symbol('P', 0).is(true);
            t.clauses().is(0);
            t.size().is(0);
        });
        Trial.trial(2, "-1 for one that is not there counts too", t -> {
            t.given("=xx");
            t.find(1).is(1);
            t.symbol('S', -1).is(true);
            t.clauses().is(0);
            t.size().is(0);
        });
        Trial.trial(2, "the clauses do not come back", t -> {
            t.symbols("P0");
            t.given("P !P");
            t.symbol('P', 0).is(true);
            t.find(1).is(1);
            t.value('P', 0, 0).is(0);
        });
        Trial.trial(2, "true does not read the buffer", t -> {
            t.symbols("P1");
            t.type("Px");
            t.symbol('P', 0).is(true);
            t.clause().isWrongAt(1);
            t.type("Px");
            t.symbol('P', 1).is(true);
            t.clause().is(1);
        });
    }

    private static void symbolFalse() {
        Trial.trial(2, "nothing is done with another letter", t -> {
            String before = t.stand();
            t.symbol('e', 0).is(false);
            t.symbol('x', -1).is(false);
            t.symbol((char) ('a' + 256), -1).is(false);
            t.stillStands(before);
        });
        Trial.trial(2, "nothing is done with another arity", t -> {
            String before = t.stand();
            t.symbol('a', 3).is(false);
            t.symbol('P', -2).is(false);
            t.symbol('c', GREATEST).is(false);
            t.stillStands(before);
        });
        Trial.trial(2, "nothing is done to 8 clauses", t -> {
            t.symbols("P0");
            t.given(EIGHT);
            t.symbol('P', 3).is(false);
            t.symbol('T', 0).is(false);
            t.clauses().is(8);
            t.drop().is(7);
        });
    }

    private static void typeCounts() {
        Trial.trial(3, "n 1 is the first", t -> t.type('P', 1).is(1));
        Trial.trial(3, "n 8 is the last", t -> t.type(Trial.packed("PPPPPPPP"), 8).is(8));
        for (int n : new int[] {0, 9, -1, 10, 16, 256, 257, LEAST, LEAST + 1, GREATEST}) {
            Trial.trial(3, "n " + n + " is BAD", t -> {
                t.type("=x");
                t.type(Trial.packed("xxxxxxxx"), n).isBad();
                t.bufferHas(2);
                t.clause().is(1);
            });
        }
        for (int n = 1; n <= 8; n++) {
            int given = n;
            Trial.trial(3, "all of " + given + ", the highest first", t -> {
                t.symbols("a1");
                String text = "=aaaaaxy".substring(0, given);
                t.type(Trial.packed(text), given).is(given);
                t.clause("b").isWrongAt(given);
                t.type(Trial.packed("Z" + text.substring(1)), given).is(given);
                t.clause().isWrongAt(0);
                t.type(Trial.packed("="), 1).is(1);
                t.type(Trial.packed("aaaaaaaZ".substring(8 - given)), given).is(1 + given);
                t.clause().isWrongAt(given);
            });
        }
        Trial.trial(3, "BAD changes nothing", t -> {
            String before = t.stand();
            t.type(0, 1).isBad();
            t.type('x', 0).isBad();
            t.stillStands(before);
        });
        Trial.trial(3, "what is typed changes nothing but the buffer", t -> {
            String before = t.stand();
            t.type(Trial.packed("|=yx"), 4).is(7);
            t.stillStands(before);
        });
    }

    private static void typeBytes() {
        Trial.trial(3, "33 is the first", t -> {
            t.type(33, 1).is(1);
            t.type(0x2121212121212121L, 8).is(9);
        });
        Trial.trial(3, "126 is the last", t -> {
            t.type(126, 1).is(1);
            t.type(0x7E7E7E7E7E7E7E7EL, 8).is(9);
        });
        for (int c : new int[] {0, 1, 10, 31, 32, 127, 128, 160, 161, 254, 255}) {
            Trial.trial(3, "byte " + c + " is BAD at every place of 8", t -> {
                for (int place = 0; place < 8; place++) {
                    long others = 0x7878787878787878L & ~(255L << (8 * place));
                    t.type(others | (long) c << (8 * place), 8).isBad();
                }
                t.bufferHas(0);
            });
            Trial.trial(3, "byte " + c + " does not matter above the lowest n", t -> {
                for (int n = 1; n < 8; n++) {
                    long others = 0x2121212121212121L & ~(255L << (8 * n));
                    t.type(others | (long) c << (8 * n), n).is(n * (n + 1) / 2);
                }
            });
            Trial.trial(3, "byte " + c + " alone is BAD", t -> {
                t.type(c, 1).isBad();
                t.type(-256L | c, 1).isBad();
                t.bufferHas(0);
            });
        }
        Trial.trial(3, "nothing of a BAD one comes, even of its right bytes", t -> {
            t.type(0x3D787920L, 4).isBad();
            t.type(0x203D7879L, 4).isBad();
            t.clause().isWrongAt(0);
        });
        Trial.trial(3, "-1 is BAD for every n", t -> {
            for (int n = 1; n <= 8; n++) {
                t.type(-1L, n).isBad();
            }
        });
        Trial.trial(3, "the least and the greatest long are BAD", t -> {
            t.type(Long.MIN_VALUE, 8).isBad();
            t.type(Long.MAX_VALUE, 8).isBad();
            t.bufferHas(0);
        });
    }

    private static void typeFull() {
        for (int n = 1; n <= 8; n++) {
            int given = n;
            Trial.trial(3, "60 are still right with the last " + given, t -> {
                t.type("x".repeat(60 - given));
                t.type(Trial.packed("x".repeat(given)), given).is(60);
            });
            Trial.trial(3, "61 are FULL with the last " + given, t -> {
                t.type("x".repeat(61 - given));
                t.type(Trial.packed("x".repeat(given)), given).isFull();
                t.type("x".repeat(given - 1));
                t.type('x', 1).isFull();
            });
        }
        Trial.trial(3, "nothing of a FULL one comes", t -> {
            t.symbols("b1");
            t.type("=" + "b".repeat(55) + "x");
            t.type(Trial.packed("yZZZ"), 4).isFull();
            t.type(Trial.packed("y"), 1).is(58);
            t.clause().is(1);
        });
        Trial.trial(3, "a full buffer stays as it is", t -> {
            t.symbols("b1");
            t.type("=" + "b".repeat(57) + "xy");
            t.type('x', 1).isFull();
            t.type(Trial.packed("xxxxxxxx"), 8).isFull();
            t.clause().is(1);
        });
        Trial.trial(3, "BAD comes before FULL", t -> {
            t.type("x".repeat(60));
            t.type(32, 1).isBad();
            t.type(127, 1).isBad();
            t.type('x', 0).isBad();
            t.type('x', 9).isBad();
            t.type(Trial.packed("xxxx xxx"), 8).isBad();
            t.type('x', 1).isFull();
        });
        Trial.trial(3, "FULL changes nothing", t -> {
            String before = t.stand();
            t.type("|=xy".repeat(14));
            t.type(Trial.packed("xx"), 2).isFull();
            t.type(Trial.packed("|=xyxxxx"), 8).isFull();
            t.stillStands(before);
        });
    }

    private static void clauseCounts() {
        Trial.trial(4, "the first is 1 and the last is 8", t -> {
            t.symbols("P0");
            t.given(EIGHT);
            t.clauses().is(8);
        });
        Trial.trial(4, "the shortest one", t -> {
            t.symbols("P0");
            t.clause("P").is(1);
        });
        Trial.trial(4, "60 characters in one literal", t -> {
            t.symbols("b1");
            t.clause("=" + "b".repeat(57) + "xy").is(1);
            t.find(4).is(1);
        });
        Trial.trial(4, "60 characters in one term of two", t -> {
            t.symbols("a2");
            t.clause("=x" + "a".repeat(28) + "y".repeat(29) + "|").isWrongAt(60);
            t.clause("!=" + "a".repeat(28) + "y".repeat(29) + "x").is(1);
            t.find(1).is(0);
        });
        Trial.trial(4, "30 literals", t -> {
            t.symbols("P0");
            t.clause("P|".repeat(29) + "P").is(1);
            t.find(1).is(1);
            t.value('P', 0, 0).is(1);
        });
        Trial.trial(4, "20 literals with !", t -> {
            t.symbols("P0");
            t.clause("!P|".repeat(19) + "!P").is(1);
            t.clause("P").is(2);
            t.find(4).is(0);
        });
        Trial.trial(4, "a clause that came is not changed by later texts", t -> {
            t.symbols("P0 Q0");
            t.clause("P").is(1);
            t.type("!P|Q");
            t.find(1).is(1);
            t.value('P', 0, 0).is(1);
            t.value('Q', 0, 0).is(0);
        });
        Trial.trial(4, "each of 8 clauses counts", t -> {
            t.symbols("P0 Q0 R0 S0");
            t.given("=xx =xx =xx P Q R|P S|P S");
            t.find(1).is(1);
            t.value('P', 0, 0).is(1);
            t.value('Q', 0, 0).is(1);
            t.value('R', 0, 0).is(0);
            t.value('S', 0, 0).is(1);
        });
        Trial.trial(4, "it empties the buffer", t -> {
            t.clause("=xx").is(1);
            t.bufferHas(0);
        });
        Trial.trial(4, "the structure stays when a clause comes", t -> {
            String before = t.stand();
            t.clause().is(2);
            t.drop().is(1);
            t.looksAs(before);
            t.tries().is(7);
        });
    }

    private static void wrong(String text, int place) {
        Trial.trial(4, "wrong at " + place + ": " + text, t -> {
            t.symbols("a0 b1 c2 P0 Q1 R2");
            t.clause(text).isWrongAt(place);
            t.clauses().is(0);
            t.bufferHas(0);
        });
    }

    private static void clauseWrongAtLiterals() {
        for (char c = 33; c <= 126; c++) {
            if ("=!PQR".indexOf(c) < 0) {
                wrong("" + c, 0);
                wrong("P|" + c, 2);
            }
            if ("=PQR".indexOf(c) < 0) {
                wrong("!" + c, 1);
            }
            if (c != '|') {
                wrong("P" + c, 1);
                wrong("=xy" + c, 3);
            }
        }
        wrong("!!P", 1);
        wrong("!|P", 1);
        wrong("|P", 0);
        wrong("P||P", 2);
        wrong("P|P!", 3);
        wrong("P|S", 2);
        wrong("S|P", 0);
    }

    private static void clauseWrongAtTerms() {
        for (char c = 33; c <= 126; c++) {
            if ("xyzabc".indexOf(c) < 0) {
                wrong("=" + c, 1);
                wrong("=x" + c, 2);
                wrong("Q" + c, 1);
                wrong("Rb" + c, 2);
                wrong("=cx" + c, 3);
            }
        }
        wrong("=d", 1);
        wrong("=xd", 2);
        wrong("Rbd", 2);
        wrong("=ax|Qxy", 6);
        wrong("Qax", 2);
        wrong("=cxyzz", 5);
        wrong("=" + "b".repeat(58) + "P", 59);
        wrong("=" + "b".repeat(56) + "xyz", 59);
        wrong("=xy|".repeat(14) + "=xyz", 59);
    }

    private static void clauseWrongAtEnds() {
        wrong("", 0);
        for (String text : new String[] {"=", "!", "Q", "R", "=x", "=a", "=b", "=c", "Qb", "Rx", "Ra", "!=", "!Q", "P|",
            "=cx", "=bx", "Rcx", "P|!", "=xy|", "Qcaa|", "Rcbbaa"}) {
            wrong(text, text.length());
        }
        wrong("=" + "b".repeat(58), 59);
        wrong("=" + "b".repeat(59), 60);
        wrong("=x" + "b".repeat(58), 60);
        wrong("P|".repeat(30), 60);
        wrong("P|".repeat(29) + "!", 59);
        wrong("P|".repeat(29) + "P!", 59);
        wrong("=" + "c".repeat(30) + "x".repeat(29), 60);
    }

    private static void clauseWrongChanges() {
        Trial.trial(4, "a wrong one changes nothing but the buffer", t -> {
            String before = t.stand();
            t.clause("!").isWrongAt(3);
            t.clause("P").isWrongAt(1);
            t.clause().isWrongAt(0);
            t.type("=xy");
            t.stillStands(before);
        });
        Trial.trial(4, "nothing of a wrong one stays in the clauses", t -> {
            t.symbols("P0 Q0");
            t.clause("P").is(1);
            t.clause("!P|").isWrongAt(3);
            t.find(1).is(1);
            t.clause("Q").is(2);
            t.find(1).is(1);
            t.value('P', 0, 0).is(1);
            t.value('Q', 0, 0).is(1);
        });
        Trial.trial(4, "a wrong one takes no room", t -> {
            t.symbols("P0");
            for (int i = 0; i < 9; i++) {
                t.clause("P|").isWrongAt(2);
            }
            t.given(EIGHT);
        });
    }

    private static void clauseFull() {
        Trial.trial(4, "FULL when there are 8", t -> {
            t.symbols("P0");
            t.given(EIGHT);
            t.clause("P").isFull();
            t.clause("!P").isFull();
            t.clauses().is(8);
        });
        Trial.trial(4, "not FULL when there are 7 again", t -> {
            t.symbols("P0");
            t.given(EIGHT);
            t.clause("P").isFull();
            t.drop().is(7);
            t.clause("P").is(8);
            t.clause("P").isFull();
        });
        Trial.trial(4, "FULL empties the buffer", t -> {
            t.symbols("P0");
            t.given(EIGHT);
            t.clause("P").isFull();
            t.bufferHas(0);
        });
        Trial.trial(4, "FULL leaves the 8 as they are", t -> {
            t.symbols("P0");
            t.given(EIGHT);
            t.clause("!P").isFull();
            t.find(1).is(1);
            t.value('P', 0, 0).is(1);
        });
        Trial.trial(4, "FULL leaves the structure, its tries and the case", t -> {
            t.symbols("P0 Q0");
            t.given(EIGHT);
            t.find(1).is(1);
            t.check("!=xx").is(0);
            String before = t.look();
            t.clause("Q").isFull();
            t.looksAs(before);
            t.tries().is(3);
            t.more().is(1);
            t.value('Q', 0, 0).is(1);
        });
        Trial.trial(4, "a wrong text is told before FULL", t -> {
            t.symbols("P0");
            t.given(EIGHT);
            t.clause().isWrongAt(0);
            t.clause("Q").isWrongAt(0);
            t.clause("P|").isWrongAt(2);
            t.bufferHas(0);
            t.clauses().is(8);
        });
        Trial.trial(4, "a wrong text with 8 leaves the 8 as they are", t -> {
            t.symbols("P0");
            t.given(EIGHT);
            t.clause("!P|").isWrongAt(3);
            t.find(1).is(1);
            t.value('P', 0, 0).is(1);
            t.clause("!P!").isWrongAt(2);
            t.more().is(0);
        });
    }

    private static void dropCounts() {
        Trial.trial(5, "from 8 to none", t -> {
            t.symbols("P0");
            t.given(EIGHT);
            for (int left = 7; left >= 0; left--) {
                t.drop().is(left);
                t.clauses().is(left);
            }
            t.drop().isNo();
        });
        Trial.trial(5, "the only one goes", t -> {
            t.given("!=xx");
            t.drop().is(0);
            t.find(1).is(1);
        });
        Trial.trial(5, "the last goes and not the first", t -> {
            t.symbols("P0");
            t.given("P !P");
            t.find(1).is(0);
            t.drop().is(1);
            t.find(1).is(1);
            t.value('P', 0, 0).is(1);
        });
        Trial.trial(5, "the eighth goes, not one that was FULL", t -> {
            t.symbols("P0 Q0");
            t.given("=xx =xx =xx =xx =xx =xx Q P");
            t.clause("!Q").isFull();
            t.drop().is(7);
            t.find(1).is(1);
            t.value('P', 0, 0).is(0);
            t.value('Q', 0, 0).is(1);
        });
        Trial.trial(5, "the structure stays", t -> {
            String before = t.stand();
            t.drop().is(0);
            t.clause().is(1);
            t.looksAs(before);
            t.tries().is(7);
        });
        Trial.trial(5, "the buffer stays", t -> {
            t.given("=xx");
            t.type("=xy");
            t.drop().is(0);
            t.bufferHas(3);
        });
    }

    private static void dropRefused() {
        Trial.trial(5, "NO on a new object", t -> t.drop().isNo());
        Trial.trial(5, "NO behind a wrong clause", t -> {
            t.clause("=x").isWrongAt(2);
            t.drop().isNo();
        });
        Trial.trial(5, "NO behind a symbol", t -> {
            t.given("=xx =xx");
            t.symbol('a', -1).is(true);
            t.drop().isNo();
        });
        Trial.trial(5, "NO changes nothing", t -> {
            t.symbols("P0 Q0");
            t.find(1).is(1);
            t.check("P").is(0);
            t.type("=xx|P");
            String before = t.look();
            t.drop().isNo();
            t.drop().isNo();
            t.looksAs(before);
            t.tries().is(2);
            t.check().is(1);
            t.more().is(1);
            t.clause("P").is(1);
        });
    }

    private static void clausesCounted() {
        Trial.trial(13, "0 on a new object", t -> t.clauses().is(0));
        Trial.trial(13, "each from 1 to 8", t -> {
            for (int count = 1; count <= 8; count++) {
                t.clause("=xx").is(count);
                t.clauses().is(count);
            }
        });
        Trial.trial(13, "0 when the last one went", t -> {
            t.given("=xx");
            t.drop().is(0);
            t.clauses().is(0);
            t.drop().isNo();
            t.clauses().is(0);
        });
        Trial.trial(13, "8 behind a FULL clause", t -> {
            t.symbols("P0");
            t.given(EIGHT);
            t.clause("P").isFull();
            t.clauses().is(8);
        });
        Trial.trial(13, "a wrong clause is none", t -> {
            t.given("=xx");
            t.clause("=x").isWrongAt(2);
            t.clauses().is(1);
        });
        Trial.trial(13, "a text that is typed or looked at is none", t -> {
            t.given("=xx");
            t.find(1).is(1);
            t.type("=xy");
            t.clauses().is(1);
            t.check().is(1);
            t.clauses().is(1);
        });
        Trial.trial(13, "find and more leave them", t -> {
            t.given("=xx !=xx");
            t.find(4).is(0);
            t.find(5).isBad();
            t.more().isNo();
            t.clauses().is(2);
        });
        Trial.trial(13, "0 behind a symbol, and as many as before behind a false one", t -> {
            t.given("=xx =xx");
            t.symbol('a', -2).is(false);
            t.clauses().is(2);
            t.symbol('a', -1).is(true);
            t.clauses().is(0);
        });
        Trial.trial(13, "asking changes nothing", t -> {
            String before = t.stand();
            t.clauses().is(1);
            t.stillStands(before);
        });
    }
}
