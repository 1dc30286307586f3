import java.util.function.Consumer;

/** The boundary cases of the promises on looks at the structure: 9, 11 and 12. */
public final class LookBoundariesTest {
    private static final int LEAST = Integer.MIN_VALUE;
    private static final int GREATEST = Integer.MAX_VALUE;
    /** Clauses with which a goes through all numbers of the sizes 1 to 4, each to the next one. */
    private static final String[] CYCLES = {"=xx", "!=axx", "!=axx !=aaxx", "Px|Pax !Px|!Pax !=aaxx"};
    private static final String SAME = "=cxyy Rxx !Rxy|=xy";
    private static final String FOUR = "!=ab !=ac !=bc !=ad !=bd !=cd";
    private static final String EIGHT = "=xx =yy =zz =xx|=xy =xx|=xz =yy|=yz =zz|=zx !=xy|=xy";
    private static final String LONGEST = "=" + "a".repeat(57) + "xy";

    public static void main(String[] args) {
        valueArguments();
        valueRefused();
        valueFollows();
        checkAnswers();
        checkCases();
        checkWrong();
        checkRefused();
        checkChanges();
        caseBefore();
        caseKept();
        caseRefused();
        Trial.end();
    }

    /** A structure of the size: a goes round, c answers its second argument, R holds for the same two. */
    private static void cycle(Trial t, int size) {
        t.symbols("a1 c2 P1 R2 S0");
        t.given(CYCLES[size - 1] + " " + SAME);
        t.find(4).is(size);
    }

    /** The constants a, b, c, d are 0, 1, 2, 3. */
    private static void fourConstants(Trial t) {
        t.symbols("a0 b0 c0 d0");
        t.given(FOUR);
        t.find(4).is(4);
    }

    private static void valueArguments() {
        for (int n = 1; n <= 4; n++) {
            int size = n;
            Trial.trial(9, "every argument in size " + size, t -> {
                cycle(t, size);
                for (int i = 0; i < size; i++) {
                    t.value('a', i, 0).is((i + 1) % size);
                    for (int j = 0; j < size; j++) {
                        t.value('c', i, j).is(j);
                        t.value('R', i, j).is(i == j);
                    }
                }
            });
            Trial.trial(9, "no argument from " + size + " on in size " + size, t -> {
                cycle(t, size);
                for (int no = size; no <= 6; no++) {
                    t.value('a', no, 0).isBad();
                    t.value('P', no, 0).isBad();
                    t.value('c', no, 0).isBad();
                    t.value('c', size - 1, no).isBad();
                    t.value('R', no, size - 1).isBad();
                    t.value('R', 0, no).isBad();
                    t.value('R', no, no).isBad();
                }
            });
            Trial.trial(9, "no argument below 0 in size " + size, t -> {
                cycle(t, size);
                for (int no : new int[] {-1, -2, -4, -16, -64, LEAST, LEAST + 1}) {
                    t.value('a', no, 0).isBad();
                    t.value('P', no, 0).isBad();
                    t.value('c', no, size - 1).isBad();
                    t.value('c', size - 1, no).isBad();
                    t.value('R', no, no).isBad();
                }
            });
        }
        Trial.trial(9, "numbers that wrap around are no arguments", t -> {
            cycle(t, 4);
            for (int no : new int[] {256, 65536, 1 << 28, 1 << 30, LEAST, GREATEST, GREATEST - 3, -1 << 28, -1 << 30}) {
                t.value('a', no, 0).isBad();
                t.value('c', no, 0).isBad();
                t.value('c', 0, no).isBad();
                t.value('c', 1, -no).isBad();
                t.value('R', no, 3).isBad();
            }
        });
        Trial.trial(9, "one that is no argument is not made up for by the other", t -> {
            cycle(t, 4);
            t.value('c', 1, -4).isBad();
            t.value('c', -1, 4).isBad();
            t.value('c', 0, 4).isBad();
            t.value('R', 4, -4).isBad();
        });
        Trial.trial(9, "without arguments i and j do not matter", t -> {
            fourConstants(t);
            for (int any : new int[] {0, 4, -1, LEAST, GREATEST}) {
                t.value('a', any, 0).is(0);
                t.value('b', 0, any).is(1);
                t.value('d', any, any).is(3);
            }
        });
        Trial.trial(9, "for a predicate without arguments i and j do not matter", t -> {
            t.symbols("P0 Q0");
            t.given("Q");
            t.find(1).is(1);
            for (int any : new int[] {1, -1, LEAST, GREATEST}) {
                t.value('P', any, any).is(0);
                t.value('Q', any, any).is(1);
            }
        });
        Trial.trial(9, "with one argument j does not matter", t -> {
            cycle(t, 4);
            for (int any : new int[] {1, 4, -1, 16, LEAST, GREATEST}) {
                t.value('a', 3, any).is(0);
                t.value('a', 0, any).is(1);
                t.value('P', 3, any).is(1);
                t.value('P', 2, any).is(0);
            }
        });
    }

    private static void valueRefused() {
        Trial.trial(9, "BAD before there is a structure", t -> {
            t.symbols("a0 P0");
            t.value('a', 0, 0).isBad();
            t.value('P', 0, 0).isBad();
        });
        Trial.trial(9, "BAD when there is no structure any more", t -> {
            t.symbols("a0 P0");
            t.find(1).is(1);
            t.more().is(1);
            t.value('P', 0, 0).is(1);
            t.more().is(0);
            t.value('a', 0, 0).isBad();
            t.value('P', 0, 0).isBad();
        });
        Trial.trial(9, "BAD behind a symbol", t -> {
            t.symbols("a0 P0");
            t.find(1).is(1);
            t.symbol('b', 0).is(true);
            t.value('a', 0, 0).isBad();
            t.value('b', 0, 0).isBad();
        });
        Trial.trial(9, "BAD for one that is not there", t -> {
            cycle(t, 2);
            for (char letter : "bdQ".toCharArray()) {
                t.value(letter, 0, 0).isBad();
            }
        });
        Trial.trial(9, "BAD for one that went", t -> {
            t.symbols("a0 b0 P0 Q0");
            t.symbol('a', -1).is(true);
            t.symbol('Q', -1).is(true);
            t.find(1).is(1);
            t.value('a', 0, 0).isBad();
            t.value('Q', 0, 0).isBad();
            t.value('b', 0, 0).is(0);
            t.value('P', 0, 0).is(0);
        });
        for (int letter : new int[] {'`', 'e', 'O', 'T', 'x', 'y', 'z', '=', '!', '|', 'A', 'p', 0, 32, 'a' + 256,
            'P' + 256, 'c' + 32768, 65535}) {
            Trial.trial(9, "BAD for letter " + letter, t -> {
                t.symbols("a0 b0 c0 d0 P0 Q0 R0 S0");
                t.find(1).is(1);
                t.value((char) letter, 0, 0).isBad();
            });
        }
        Trial.trial(9, "BAD changes nothing", t -> {
            String before = t.stand();
            t.value('c', 0, 0).isBad();
            t.value('P', 2, 0).isBad();
            t.value('P', -1, 0).isBad();
            t.stillStands(before);
        });
    }

    private static void valueFollows() {
        for (char letter : "abcdPQRS".toCharArray()) {
            Trial.trial(9, "each letter has a cell of its own: " + letter, t -> {
                t.symbols("a0 b0 c0 d0 P0 Q0 R0 S0");
                String text = letter >= 'a' ? "=" + letter + "x" : "" + letter;
                t.given(text);
                t.find(1).is(1);
                for (char other : "abcdPQRS".toCharArray()) {
                    t.value(other, 0, 0).is(other == letter && letter < 'a' ? 1 : 0);
                }
            });
        }
        Trial.trial(9, "the next structure's values behind more()", t -> {
            t.symbols("P0");
            t.find(1).is(1);
            t.value('P', 0, 0).is(0);
            t.more().is(1);
            t.value('P', 0, 0).is(1);
        });
        Trial.trial(9, "the same values when clauses came and went", t -> {
            t.symbols("P0");
            t.given("P");
            t.find(1).is(1);
            t.drop().is(0);
            t.value('P', 0, 0).is(1);
            t.clause("!P").is(1);
            t.value('P', 0, 0).is(1);
        });
        Trial.trial(9, "asking changes nothing", t -> {
            String before = t.stand();
            t.value('a', 0, 0).is(0);
            t.value('b', 0, 0).is(1);
            t.value('P', 1, 0).is(0);
            t.stillStands(before);
        });
    }

    private static void checkAnswers() {
        for (int n = 1; n <= 4; n++) {
            int size = n;
            Trial.trial(11, "1 and 0 in size " + size, t -> {
                cycle(t, size);
                t.check("=xx").is(1);
                t.check("!=xx").is(0);
                t.check("=xy").is(size == 1);
                t.check("=xy|=xz|=yz").is(size <= 2);
                t.check("=axx").is(size == 1);
                t.check("=aaxx").is(size <= 2);
                t.check("=" + "a".repeat(size) + "xx").is(1);
                t.check("Rcxyy").is(1);
                t.check("Rxax").is(size == 1);
            });
        }
        Trial.trial(11, "one broken instance is enough: the last of 64", t -> {
            fourConstants(t);
            t.check("=xa|=xb|=xc|=ya|=yb|=yc|=za|=zb|=zc").is(0);
            t.caseIs(3, 3, 3);
        });
        Trial.trial(11, "none of 64 instances is broken", t -> {
            fourConstants(t);
            t.check("=xa|=xb|=xc|=xd").is(1);
            t.check("=xa|=yb|=zc|!=xa|!=yb|!=zc").is(1);
        });
        Trial.trial(11, "one true literal is enough, wherever it stands", t -> {
            t.symbols("P0 Q0");
            t.given("P !Q");
            t.find(1).is(1);
            t.check("P|Q|Q").is(1);
            t.check("Q|P|Q").is(1);
            t.check("Q|Q|P").is(1);
            t.check("Q|!P|Q").is(0);
            t.check("Q|Q|!Q").is(1);
        });
        Trial.trial(11, "60 characters", t -> {
            t.symbols("a1");
            t.given("!=axx");
            t.find(2).is(2);
            t.check(LONGEST).is(0);
            t.caseIs(0, 0, 0);
            t.check("!" + LONGEST.replace("aax", "ax")).is(0);
            t.caseIs(0, 0, 0);
        });
        Trial.trial(11, "without a symbol", t -> {
            t.find(1).is(1);
            t.check("=xy").is(1);
            t.check("!=xy").is(0);
            t.caseIs(0, 0, 0);
        });
        Trial.trial(11, "a symbol that no clause has is looked at too", t -> {
            t.symbols("P0 Q0");
            t.find(1).is(1);
            t.check("Q").is(0);
            t.check("!Q").is(1);
        });
    }

    private static void caseIs(String text, int x, int y, int z) {
        Trial.trial(11, "the case of " + text, t -> {
            fourConstants(t);
            t.check("=xa|=xb|=xc|=ya|=yb|=yc|=za|=zb|=zc").is(0);
            t.check(text).is(0);
            t.caseIs(x, y, z);
        });
    }

    private static void checkCases() {
        caseIs("!=aa", 0, 0, 0);
        caseIs("!=xy", 0, 0, 0);
        caseIs("=xy", 0, 1, 0);
        caseIs("=yx", 0, 1, 0);
        caseIs("=xz", 0, 0, 1);
        caseIs("=zy", 0, 0, 1);
        caseIs("=xy|=yz|=xz", 0, 1, 2);
        caseIs("=zx|=zy|=yx", 0, 1, 2);
        caseIs("=xz|=yz", 0, 0, 1);
        caseIs("=xy|=xz", 0, 1, 1);
        caseIs("=yz|=yx", 0, 1, 0);
        caseIs("=xa|=yz", 1, 0, 1);
        caseIs("=za|=yz|=xb|=xa", 2, 0, 1);
        caseIs("=ya|=yb|=yx|=xa|=zy", 1, 2, 0);
        caseIs("=xa|=xb|=xc", 3, 0, 0);
        caseIs("=ya|=yb|=yc", 0, 3, 0);
        caseIs("=za|=zb|=zc", 0, 0, 3);
        caseIs("=xa|=xb|=xc|=za|=zb", 3, 0, 2);
        caseIs("=ya|=yb|=yc|=za|=zb|=zc", 0, 3, 3);
        caseIs("=xa|=xb|=xc|=ya|=yb|=yc", 3, 3, 0);
        caseIs("!=xd", 3, 0, 0);
        caseIs("!=yd|!=xc", 2, 3, 0);
    }

    private static void wrongAt(String text, int place) {
        Trial.trial(11, "wrong at " + place + " with a structure: " + text, t -> {
            t.symbols("a1 P0");
            t.find(1).is(1);
            t.check(text).isWrongAt(place);
            t.bufferHas(0);
        });
        Trial.trial(11, "wrong at " + place + " before NO: " + text, t -> {
            t.symbols("a1 P0");
            t.check(text).isWrongAt(place);
            t.bufferHas(0);
        });
    }

    private static void checkWrong() {
        wrongAt("", 0);
        wrongAt("x", 0);
        wrongAt("Q", 0);
        wrongAt("|", 0);
        wrongAt("!", 1);
        wrongAt("!!", 1);
        wrongAt("Px", 1);
        wrongAt("=b", 1);
        wrongAt("P|", 2);
        wrongAt("=ax", 3);
        wrongAt("=xyz", 3);
        wrongAt("P|P|P|Q", 6);
        wrongAt("=" + "a".repeat(58), 59);
        wrongAt("=" + "a".repeat(56) + "xyx", 59);
        wrongAt("=" + "a".repeat(59), 60);
        wrongAt("P|".repeat(30), 60);
    }

    private static void checkRefused() {
        Trial.trial(11, "NO on a new object", t -> t.check("=xx").isNo());
        Trial.trial(11, "NO empties the buffer", t -> {
            t.check("=xx").isNo();
            t.bufferHas(0);
        });
        Trial.trial(11, "NO for a text of 60 characters", t -> {
            t.symbols("a1");
            t.check(LONGEST).isNo();
            t.bufferHas(0);
        });
        Trial.trial(11, "NO behind a find() that was 0", t -> {
            t.given("!=xx");
            t.find(4).is(0);
            t.check("=xx").isNo();
        });
        Trial.trial(11, "NO behind a more() that was 0", t -> {
            t.find(1).is(1);
            t.more().is(0);
            t.check("=xx").isNo();
        });
        Trial.trial(11, "NO behind a symbol", t -> {
            t.find(1).is(1);
            t.symbol('a', 0).is(true);
            t.check("=xx").isNo();
        });
        Trial.trial(11, "NO leaves the clauses and tries", t -> {
            t.symbols("P0");
            t.given("P !P");
            t.find(1).is(0);
            t.check("P").isNo();
            t.clauses().is(2);
            t.tries().is(2);
            t.drop().is(1);
            t.find(1).is(1);
        });
    }

    private static void checkChanges() {
        Trial.trial(11, "1 and 0 empty the buffer", t -> {
            t.symbols("P0");
            t.find(1).is(1);
            t.check("!P").is(1);
            t.check("P").is(0);
            t.bufferHas(0);
        });
        Trial.trial(11, "1 changes nothing but the buffer", t -> {
            String before = t.stand();
            t.check("|!=xy").is(1);
            t.type("=xy");
            t.stillStands(before);
        });
        Trial.trial(11, "a wrong text changes nothing but the buffer", t -> {
            String before = t.stand();
            t.check("|").isWrongAt(4);
            t.check("Q").isWrongAt(0);
            t.check().isWrongAt(0);
            t.type("=xy");
            t.stillStands(before);
        });
        Trial.trial(11, "0 leaves the structure and the clauses", t -> {
            t.stand();
            t.check().is(0);
            t.size().is(2);
            t.clauses().is(1);
            t.tries().is(7);
            t.more().is(1);
        });
        Trial.trial(11, "8 clauses leave room for a look", t -> {
            t.symbols("P0");
            t.given(EIGHT);
            t.find(1).is(1);
            t.check("P").is(0);
            t.check("!P").is(1);
            t.clauses().is(8);
            t.find(1).is(1);
            t.value('P', 0, 0).is(0);
        });
        Trial.trial(11, "clauses that came since do not matter", t -> {
            t.symbols("P0");
            t.find(1).is(1);
            t.clause("P").is(1);
            t.check("P").is(0);
            t.check("!P").is(1);
        });
        Trial.trial(11, "clauses that went since do not matter", t -> {
            t.symbols("P0");
            t.given("P");
            t.find(1).is(1);
            t.drop().is(0);
            t.check("P").is(1);
        });
        Trial.trial(11, "it looks at the next structure behind more()", t -> {
            t.symbols("P0");
            t.find(1).is(1);
            t.check("P").is(0);
            t.more().is(1);
            t.check("P").is(1);
        });
        Trial.trial(11, "it looks at the structure behind a find() that was BAD", t -> {
            t.symbols("P0");
            t.find(1).is(1);
            t.find(5).isBad();
            t.check("!P").is(1);
        });
    }

    private static void caseBefore() {
        Trial.trial(12, "0 on a new object", t -> t.caseIs(0, 0, 0));
        Trial.trial(12, "0 behind a check() that was 1 alone", t -> {
            fourConstants(t);
            t.check("!=xy|=xy").is(1);
            t.caseIs(0, 0, 0);
        });
        Trial.trial(12, "0 behind a check() that was wrong or NO alone", t -> {
            t.check("=x").isWrongAt(2);
            t.check("=xy").isNo();
            t.caseIs(0, 0, 0);
        });
        Trial.trial(12, "0 is the first and 3 the last number", t -> {
            fourConstants(t);
            t.check("!=xd|!=yd|!=zd").is(0);
            t.caseIs(3, 3, 3);
            t.check("!=xa|!=ya|!=za").is(0);
            t.caseIs(0, 0, 0);
        });
        Trial.trial(12, "each variable has its own number", t -> {
            fourConstants(t);
            t.check("!=xb|!=yd|!=zc").is(0);
            t.caseOf(2).is(2);
            t.caseOf(1).is(3);
            t.caseOf(0).is(1);
        });
        Trial.trial(12, "the latest of two", t -> {
            fourConstants(t);
            t.check("!=xb|!=yd|!=zc").is(0);
            t.check("!=xc|!=yb|!=zd").is(0);
            t.caseIs(2, 1, 3);
        });
    }

    private static void caseKept(String sentence, Consumer<Trial> steps) {
        Trial.trial(12, "kept behind " + sentence, t -> {
            fourConstants(t);
            t.check("!=xb|!=yd|!=zc").is(0);
            steps.accept(t);
            t.caseIs(1, 3, 2);
        });
    }

    private static void caseKept() {
        caseKept("a check() that is 1", t -> t.check("=xx|=yy|=zz").is(1));
        caseKept("a check() that is wrong", t -> t.check("=xy|=z").isWrongAt(6));
        caseKept("a check() of nothing", t -> t.check().isWrongAt(0));
        caseKept("a check() that is NO", t -> {
            t.find(1).is(0);
            t.check("=xy").isNo();
        });
        caseKept("a find() that is 0", t -> t.find(3).is(0));
        caseKept("a find() that is BAD", t -> t.find(0).isBad());
        caseKept("a find() that finds", t -> t.find(4).is(4));
        caseKept("a more() that is 0", t -> t.more().is(0));
        caseKept("a more() that is NO", t -> {
            t.more().is(0);
            t.more().isNo();
        });
        caseKept("a symbol", t -> t.symbol('a', 1).is(true));
        caseKept("a symbol that is false", t -> t.symbol('a', 3).is(false));
        caseKept("a clause", t -> t.clause("=xy").is(7));
        caseKept("a wrong clause", t -> t.clause("=x").isWrongAt(2));
        caseKept("a drop()", t -> t.drop().is(5));
        caseKept("a text", t -> t.type("=xy"));
        caseKept("a variable that is BAD", t -> t.caseOf(3).isBad());
    }

    private static void caseRefused() {
        for (int variable : new int[] {-1, 3, 4, 'x', 'z', 256, 257, 65536, LEAST, LEAST + 1, GREATEST}) {
            Trial.trial(12, "BAD for " + variable, t -> t.caseOf(variable).isBad());
            Trial.trial(12, "BAD for " + variable + " with a case", t -> {
                t.stand();
                t.caseOf(variable).isBad();
            });
        }
        Trial.trial(12, "BAD changes nothing", t -> {
            String before = t.stand();
            t.caseOf(-1).isBad();
            t.caseOf(3).isBad();
            t.stillStands(before);
        });
        Trial.trial(12, "asking changes nothing", t -> {
            String before = t.stand();
            t.caseIs(1, 0, 1);
            t.stillStands(before);
        });
    }
}
