/** The boundary cases of the promises on the search and what it leaves: 6, 7, 8 and 10. */
public final class SearchBoundariesTest {
    private static final int[] NO_SIZES = {0, 5, -1, 6, 256, 257, 65537, Integer.MIN_VALUE, Integer.MIN_VALUE + 1,
        Integer.MAX_VALUE};
    /** Clauses with which two, three and four constants differ. */
    private static final String[] DIFFER = {"=xx", "!=ab", "!=ab !=ac !=bc", "!=ab !=ac !=bc !=ad !=bd !=cd"};
    private static final String FOUR = "a0 b0 c0 d0";
    private static final String WIDE = "a0 b0 P2 Q2 R2 S2";
    /** All cells of WIDE are 0 in its only structure, of size 2, but that is seen at the last cell alone. */
    private static final String SLOW = "!=ab !Pxy|Sbb !Qxy|Sbb !Rxy|Sbb !Sxy|Sbb !Sbb";
    /** With these there is none of size 1 to 3, and far more than 3000 tries are needed for size 4. */
    private static final String OUT_SYMBOLS = "a0 b0 P2 Q1 R2 S1";
    private static final String OUT_CLAUSES = "!=ab !Rxa|!Pxa Rab|!Sx !Sb|Qb !Qb Qx|Sx !Sb";

    public static void main(String[] args) {
        findSizes();
        findRefused();
        findWithoutCells();
        findUnknown();
        findInstances();
        findOrder();
        findLimits();
        findOut();
        findEndsStructure();
        moreRefused();
        moreNotRefused();
        moreGoesOn();
        moreEndsStructure();
        moreOut();
        sizes();
        triesCounted();
        Trial.end();
    }

    private static void findSizes() {
        for (int least = 1; least <= 4; least++) {
            for (int n = 1; n <= 4; n++) {
                int size = least;
                int up = n;
                Trial.trial(6, "up to " + n + " where the least size is " + least, t -> {
                    t.symbols(FOUR);
                    t.given(DIFFER[size - 1]);
                    t.find(up).is(size <= up ? size : 0);
                    t.size().is(size <= up ? size : 0);
                });
            }
        }
        Trial.trial(6, "0 when 4 are too few", t -> {
            t.symbols("a1");
            t.given("!=axx !=aaxx !=aaaxx !=aaaaxx");
            t.find(4).is(0);
        });
        Trial.trial(6, "no clause: the first structure has zeros alone", t -> {
            t.symbols("a0 b1 c2 P0 Q1 R2");
            t.find(4).is(1);
            t.tries().is(6);
            for (char letter : "abcPQR".toCharArray()) {
                t.value(letter, 0, 0).is(0);
            }
        });
        Trial.trial(6, "8 clauses all count", t -> {
            t.symbols("P0 Q0 R0 S0");
            t.given("P|Q !P|Q P|!Q R|S !R|S R|!S !P|!R|S P|R|S");
            t.find(1).is(1);
            for (char letter : "PQRS".toCharArray()) {
                t.value(letter, 0, 0).is(1);
            }
        });
        Trial.trial(6, "the eighth clause alone leaves none", t -> {
            t.symbols("P0");
            t.given("P P P P P P P !P");
            t.find(4).is(0);
        });
        Trial.trial(6, "all of the 128 cells that there can be", t -> {
            t.symbols("a2 b2 c2 d2 P2 Q2 R2 S2");
            t.given("!=aaaaaaxyyyyyyx =bxyy =cxyx =dxyy Pxy Qxy Rxy Sxy");
            t.find(4).is(4);
            t.tries().is(550);
            for (int i = 0; i < 4; i++) {
                for (int j = 0; j < 4; j++) {
                    t.value('a', i, j).is((i + 1) % 4);
                    t.value('b', i, j).is(j);
                    t.value('c', i, j).is(i);
                    t.value('d', i, j).is(j);
                    for (char letter : "PQRS".toCharArray()) {
                        t.value(letter, i, j).is(1);
                    }
                }
            }
            t.check("=aaaaxyyyyx").is(1);
        });
        Trial.trial(6, "a find() begins again, whatever stood", t -> {
            t.symbols("P0 Q0");
            t.find(4).is(1);
            t.more().is(1);
            t.value('Q', 0, 0).is(1);
            t.find(4).is(1);
            t.tries().is(2);
            t.value('Q', 0, 0).is(0);
        });
    }

    private static void findRefused() {
        for (int n : NO_SIZES) {
            Trial.trial(6, "BAD for " + n, t -> t.find(n).isBad());
            Trial.trial(6, "BAD for " + n + " leaves the structure, clauses and case", t -> {
                String before = t.stand();
                t.find(n).isBad();
                t.looksAs(before);
                t.bufferHas(3);
            });
        }
        Trial.trial(6, "behind BAD more() goes on where it was", t -> {
            t.stand();
            t.more().is(1);
            t.find(0).isBad();
            t.more().is(1);
            t.value('P', 0, 0).is(1);
            t.value('P', 1, 0).is(0);
            t.find(5).isBad();
            t.more().is(1);
            t.value('P', 1, 0).is(1);
        });
        Trial.trial(6, "BAD does not make up for a clause that came", t -> {
            t.symbols("P0");
            t.find(1).is(1);
            t.clause("=xx").is(1);
            t.find(0).isBad();
            t.more().isNo();
        });
        Trial.trial(6, "BAD where there is no structure leaves none", t -> {
            t.find(0).isBad();
            t.size().is(0);
            t.more().isNo();
        });
    }

    private static void findWithoutCells() {
        Trial.trial(6, "no symbols and no clauses: size 1 without a try", t -> {
            t.find(4).is(1);
            t.tries().is(0);
        });
        Trial.trial(6, "an instance that is broken without any cell: none, without a try", t -> {
            t.symbols("a0 P2");
            t.given("!=xx");
            t.find(4).is(0);
            t.tries().is(0);
        });
        Trial.trial(6, "broken without any cell in the sizes from 2 on alone", t -> {
            t.given("=xy");
            t.find(4).is(1);
        });
        Trial.trial(6, "sizes that are broken without any cell have no tries", t -> {
            t.symbols("a0 b0");
            t.given("!=ab =xy");
            t.find(4).is(0);
            t.tries().is(2);
        });
        Trial.trial(6, "broken without any cell in the sizes from 3 on alone", t -> {
            t.symbols("a0 b0 c0");
            t.given("!=ab !=ac !=bc =xy|=yz|=xz");
            t.find(4).is(0);
            t.tries().is(2 + (1 + 2 + 2));
        });
        Trial.trial(6, "no symbols: a size with one number for x, y and z has no two that differ", t -> {
            t.given("!=xy");
            t.find(4).is(0);
        });
    }

    private static void findUnknown() {
        Trial.trial(6, "a term is not known before its cell has a value", t -> {
            t.symbols("a0");
            t.given("!=aa");
            t.find(1).is(0);
            t.tries().is(1);
        });
        Trial.trial(6, "a predicate is not known before its cell has a value", t -> {
            t.symbols("P0");
            t.given("P|!=xx");
            t.find(1).is(1);
            t.tries().is(2);
        });
        Trial.trial(6, "! of what is not known is not known", t -> {
            t.symbols("P0 Q0");
            t.given("!Q !P|Q");
            t.find(1).is(1);
            t.tries().is(2);
            t.more().is(0);
            t.tries().is(1 + 1 + 2);
        });
        Trial.trial(6, "a term of a term that is not known is not known", t -> {
            t.symbols("a1 b1");
            t.given("!=abxabx");
            t.find(1).is(0);
            t.tries().is(2);
            t.find(2).is(0);
            t.tries().is(2 + 2 * (1 + 2 + 2));
        });
        Trial.trial(6, "one literal that is not known is enough, wherever it stands", t -> {
            t.symbols("P0 Q0 R0");
            t.given("R|P|Q P|R|!Q P|Q|!R P|!R|!Q");
            t.find(1).is(1);
            t.value('P', 0, 0).is(1);
            t.tries().is(1 + 2 * (1 + 2) + 3);
        });
        Trial.trial(6, "a cell that has had all has no value again", t -> {
            t.symbols("P0 Q0");
            t.given("P|Q P|!Q !P|!Q");
            t.find(1).is(1);
            t.tries().is(1 + 2 + 1 + 1);
            t.value('P', 0, 0).is(1);
            t.value('Q', 0, 0).is(0);
        });
    }

    private static void findInstances() {
        for (char variable : "xyz".toCharArray()) {
            Trial.trial(6, "every number of " + variable + " alone, up to n - 1", t -> {
                t.symbols("a0 b0 c0 d0 P1");
                t.given(DIFFER[3] + " P" + variable);
                t.find(4).is(4);
                for (int i = 0; i < 4; i++) {
                    t.value('P', i, 0).is(1);
                }
                t.more().is(0);
            });
        }
        for (String variables : "xy yx xz zx yz zy".split(" ")) {
            Trial.trial(6, "every two numbers of " + variables, t -> {
                t.symbols("a0 b0 c0 P2");
                t.given(DIFFER[2] + " P" + variables);
                t.find(3).is(3);
                for (int i = 0; i < 9; i++) {
                    t.value('P', i / 3, i % 3).is(1);
                }
                t.more().is(0);
            });
        }
        Trial.trial(6, "every three numbers of x, y and z", t -> {
            t.symbols(FOUR);
            t.given("!=ab !=ac !=bc !=xa|!=yb|!=zc|=ad =bd|!=xa|!=yb|!=zc|=ad");
            t.find(3).is(3);
            t.value('d', 0, 0).is(0);
            t.more().is(0);
        });
        Trial.trial(6, "one instance where there is no variable", t -> {
            t.symbols("P0");
            t.given("P");
            t.find(1).is(1);
            t.value('P', 0, 0).is(1);
        });
    }

    /** The last of two cells is the one that more() changes first. */
    private static void later(String symbols, String texts, String first, String last) {
        Trial.trial(6, "cell " + first + " is before " + last, t -> {
            t.symbols(symbols);
            t.given(texts);
            t.find(4).is(2);
            for (int number = 0; number < 4; number++) {
                t.value(first.charAt(0), first.charAt(1) - '0', first.charAt(2) - '0').is(number >> 1);
                t.value(last.charAt(0), last.charAt(1) - '0', last.charAt(2) - '0').is(number & 1);
                t.more().is(number < 3 ? 1 : 0);
            }
        });
    }

    /** Two constants that differ make the size 2; further clauses hold all cells but two at 0. */
    private static void findOrder() {
        later("a0 b0 P0 Q1", "!=ab !Qb", "P00", "Q00");
        later("a0 b0 c1 S0", "!=ab =cba", "S00", "c00");
        later("a0 b0 c0 d0", "!=ab", "c00", "d00");
        later("a0 b0 c0 P0", "!=ab", "c00", "P00");
        later("Q0 P0 b0 a0", "!=ab", "P00", "Q00");
        later("a0 b0 Q1", "!=ab", "Q00", "Q10");
        later("a0 b0 P2 Q1", "!=ab !Pxb !Pba !Qb", "P00", "Q00");
        later("a0 b0 P2 Q1", "!=ab !Paa !Pba !Pbb !Qb", "Q00", "P01");
        later("a0 b0 P2 Q1", "!=ab !Paa !Pbx !Qa", "P01", "Q10");
        later("a0 b0 P1 c1", "!=ab !Pb =cba", "c00", "P00");
        later("a0 b0 P1 c1", "!=ab !Pb =caa", "P00", "c10");
        later("a0 b0 P1 d1", "!=ab !Pa =daa", "d10", "P10");
        later("a0 b0 c1 d2", "!=ab =cba =daba =dbxa", "c00", "d00");
        later("a0 b0 c2 d1", "!=ab =caba =cbxa =dba", "c00", "d00");
        later("a0 b0 c2 d1", "!=ab =caxa =cbaa =daa", "c11", "d10");
        later("a0 b0 R1 S2", "!=ab !Ra !Saa !Sba !Sbb", "R10", "S01");
        later("a0 b0 R2", "!=ab !Rxa", "R01", "R11");
        later("a0 b0 R2", "!=ab !Raa !Rbb", "R01", "R10");
        later("a0 b0 R2", "!=ab !Rax", "R10", "R11");
        later("a0 b0 c2", "!=ab =caaa =cbba", "c01", "c10");
    }

    private static void limit(String sentence, String symbols, String texts, int tries) {
        Trial.trial(6, "limit: " + sentence, t -> {
            t.symbols(symbols);
            t.given(texts);
            t.find(4).is(0);
            t.tries().is(tries);
        });
    }

    /** The clause fails with each value of the last cell, so the tries of the four sizes tell the limits. */
    private static void findLimits() {
        limit("0 without any number before", "a0", "!=aa", 4);
        limit("0 without a function's cell before, in one try for each size", "a0 P0", "!=aa", 4);
        limit("one more than the value before", "a0 b0", "!=bb", 2 + 3 * (1 + 2));
        limit("one more than the greatest value before", "a0 b0 c0", "!=cc",
                3 + (1 + 2 + 2 * 2) + 2 * (1 + 2 + 2 + 3));
        limit("one more than the greatest of three, but n - 1 at most", FOUR, "!=dd",
                4 + (1 + 2 + 4 + 8) + (1 + 2 + 5 + 14) + (1 + 2 + 5 + 15));
        limit("one more than its own argument", "a1", "!=axax", 1 + 2 + 2 + 2);
        limit("one more than its own two arguments", "a2", "!=axxaxx", 1 + 2 + 2 + 2);
        limit("a predicate's value does not count", "a1 P0", "P !=axax", (2 + 1) + 3 * (2 + 2));
        limit("a predicate has 0 and 1 in every size", "P0", "P !P", 4 * 2);
        limit("a predicate has 0 and 1 whatever its argument", "P1", "Px !Px", 4 * 2);
        Trial.trial(6, "limit: a value is n - 1 at most in size 1", t -> {
            t.symbols("a2 b1");
            t.find(1).is(1);
            t.more().is(0);
            t.tries().is(0);
        });
        Trial.trial(6, "limit: a predicate has 1 in size 1", t -> {
            t.symbols("P2");
            t.find(1).is(1);
            t.more().is(1);
            t.value('P', 0, 0).is(1);
            t.more().is(0);
        });
        Trial.trial(6, "limit: values that only change names are left out", t -> {
            t.symbols("a1");
            t.given("!=axx !=aaxx");
            t.find(4).is(3);
            t.tries().is(1 + 4 + 6);
            t.value('a', 0, 0).is(1);
            t.value('a', 1, 0).is(2);
            t.value('a', 2, 0).is(0);
            t.more().is(0);
            t.tries().is(2);
        });
        Trial.trial(6, "limit: n - 1 is still a value in size 4", t -> {
            t.symbols(FOUR);
            t.given(DIFFER[3]);
            t.find(4).is(4);
            t.value('a', 0, 0).is(0);
            t.value('b', 0, 0).is(1);
            t.value('c', 0, 0).is(2);
            t.value('d', 0, 0).is(3);
            t.more().is(0);
            t.tries().is(0);
        });
    }

    private static void found(String sentence, String symbols, String texts, int answer) {
        Trial.trial(6, sentence, t -> {
            t.symbols(symbols);
            t.given(texts);
            t.find(4).is(answer);
            t.tries().is(3000);
            t.size().is(answer > 0 ? answer : 0);
        });
    }

    private static void findOut() {
        found("the 3000th try finds", "a0 b0 P2 Q1 R2 S2", "!=ab Paa|Sxb !Sax|!Qa Rxb|!Sxa !Rax|!Sax !Sbb", 2);
        found("the 3000th try finds in size 3", "a0 b0 c2 P2 Q1 S2", "!=ab Qx|Qb Sxx|Pxx Sax !Scyyx|Qa !Qcyy", 3);
        found("the 3001st would find", "a0 b0 P2 Q2 R2 S1", "!=ab !Rbx|!Rxx !Rab|Sx Rbb|Qax !Sb", -4);
        found("the 3001st would find in size 3", "a0 b0 d2 R2 S1", "!=ab Sa|!Sx Rxa|!Sx Sb !Rdybx|!Sx", -4);
        found("the 3000th is the last that there is", "a0 b0 d2 R1 S2",
                "!=ab !Rx|Ry Sdyby !Rb|Sxa !Syb !Sbx Say|Rx Rb|Rb", 0);
        found("the 3001st would be the last that there is", "a0 b0 c1 P1 S2", "!=ab !Sxa Scya", -4);
        found("far more would be needed", WIDE, "!=ab Sbb !Sbb", -4);
        Trial.trial(6, "the tries of all sizes count together", t -> {
            t.symbols(OUT_SYMBOLS);
            t.given(OUT_CLAUSES);
            t.find(4).isOut();
            t.tries().is(3000);
            t.find(3).is(0);
            t.tries().is(3000);
        });
        Trial.trial(6, "each call has 3000 tries of its own", t -> {
            t.symbols(OUT_SYMBOLS);
            t.given(OUT_CLAUSES);
            for (int i = 0; i < 3; i++) {
                t.find(4).isOut();
                t.find(3).is(0);
            }
        });
    }

    private static void findEndsStructure() {
        Trial.trial(6, "0: there is no structure any more", t -> {
            t.symbols("P0");
            t.find(1).is(1);
            t.clause("!=xx").is(1);
            t.find(4).is(0);
            t.size().is(0);
            t.value('P', 0, 0).isBad();
            t.more().isNo();
            t.check("P").isNo();
            t.clauses().is(1);
        });
        Trial.trial(6, "OUT: there is no structure any more", t -> {
            t.symbols(OUT_SYMBOLS);
            t.find(1).is(1);
            t.given(OUT_CLAUSES);
            t.size().is(1);
            t.find(4).isOut();
            t.size().is(0);
            t.value('a', 0, 0).isBad();
            t.more().isNo();
            t.check("Qx").isNo();
            t.clauses().is(7);
        });
        Trial.trial(6, "0 for a lesser n: there is no structure any more", t -> {
            t.stand();
            t.find(1).is(0);
            t.size().is(0);
            t.value('P', 0, 0).isBad();
            t.caseIs(1, 0, 1);
            t.bufferHas(3);
        });
        Trial.trial(6, "behind 0 and behind OUT one can be found again", t -> {
            t.symbols(OUT_SYMBOLS);
            t.given(OUT_CLAUSES);
            t.find(4).isOut();
            t.find(1).is(0);
            for (int left = 6; left >= 0; left--) {
                t.drop().is(left);
            }
            t.find(4).is(1);
            t.size().is(1);
        });
    }

    private static void moreRefused() {
        Trial.trial(7, "NO before the first find()", t -> t.more().isNo());
        Trial.trial(7, "NO behind a find() that was BAD alone", t -> {
            t.find(0).isBad();
            t.more().isNo();
        });
        Trial.trial(7, "NO behind a find() that was 0", t -> {
            t.given("!=xx");
            t.find(4).is(0);
            t.more().isNo();
        });
        Trial.trial(7, "NO behind a find() that was OUT", t -> {
            t.symbols(OUT_SYMBOLS);
            t.given(OUT_CLAUSES);
            t.find(4).isOut();
            t.more().isNo();
        });
        Trial.trial(7, "NO behind a more() that was 0", t -> {
            t.find(1).is(1);
            t.more().is(0);
            t.more().isNo();
            t.more().isNo();
        });
        Trial.trial(7, "NO behind a more() that was OUT", t -> {
            t.symbols(WIDE);
            t.given(SLOW);
            t.find(4).is(2);
            t.more().isOut();
            t.more().isNo();
        });
        Trial.trial(7, "NO behind a symbol", t -> {
            t.symbols("P0");
            t.find(1).is(1);
            t.symbol('P', 0).is(true);
            t.more().isNo();
        });
        Trial.trial(7, "NO when a clause came", t -> {
            t.symbols("P0");
            t.find(1).is(1);
            t.clause("=xx").is(1);
            t.more().isNo();
        });
        Trial.trial(7, "NO when a clause came behind a more()", t -> {
            t.symbols("P0 Q0");
            t.find(1).is(1);
            t.more().is(1);
            t.clause("=xx").is(1);
            t.more().isNo();
        });
        Trial.trial(7, "NO when a clause went", t -> {
            t.symbols("P0");
            t.given("=xx");
            t.find(1).is(1);
            t.drop().is(0);
            t.more().isNo();
        });
        Trial.trial(7, "NO when a clause came and went", t -> {
            t.symbols("P0");
            t.find(1).is(1);
            t.clause("P").is(1);
            t.drop().is(0);
            t.more().isNo();
        });
        Trial.trial(7, "NO when a clause went and came again", t -> {
            t.symbols("P0");
            t.given("=xx");
            t.find(1).is(1);
            t.drop().is(0);
            t.clause("=xx").is(1);
            t.more().isNo();
        });
        Trial.trial(7, "NO changes nothing: the structure, case, clauses and buffer stay", t -> {
            t.stand();
            t.clause().is(2);
            t.type("=ab");
            String before = t.look();
            t.more().isNo();
            t.more().isNo();
            t.looksAs(before);
            t.check().is(0);
            t.size().is(2);
        });
        Trial.trial(7, "found anew, it goes on again", t -> {
            t.symbols("P0");
            t.find(1).is(1);
            t.clause("=xx").is(1);
            t.more().isNo();
            t.find(1).is(1);
            t.more().is(1);
        });
    }

    private static void moreNotRefused() {
        Trial.trial(7, "a wrong clause is none that came", t -> {
            t.symbols("P0");
            t.find(1).is(1);
            t.clause("P|").isWrongAt(2);
            t.more().is(1);
        });
        Trial.trial(7, "a clause that was FULL is none that came", t -> {
            t.symbols("P0");
            t.given("=xx =xx =xx =xx =xx =xx =xx =xx");
            t.find(1).is(1);
            t.clause("P").isFull();
            t.more().is(1);
        });
        Trial.trial(7, "a drop() that was NO took none", t -> {
            t.symbols("P0");
            t.find(1).is(1);
            t.drop().isNo();
            t.more().is(1);
        });
        Trial.trial(7, "clauses that came or went before it was found do not matter", t -> {
            t.symbols("P0");
            t.clause("=xx").is(1);
            t.clause("P").is(2);
            t.drop().is(1);
            t.find(1).is(1);
            t.more().is(1);
        });
        Trial.trial(7, "a symbol that was false does not matter", t -> {
            t.symbols("P0");
            t.find(1).is(1);
            t.symbol('P', 3).is(false);
            t.symbol('e', 0).is(false);
            t.more().is(1);
        });
        Trial.trial(7, "looks at clauses do not matter", t -> {
            t.symbols("P0");
            t.find(1).is(1);
            t.check("P").is(0);
            t.check("!P").is(1);
            t.check("Q").isWrongAt(0);
            t.more().is(1);
            t.value('P', 0, 0).is(1);
        });
        Trial.trial(7, "a text in the buffer does not matter, and stays", t -> {
            t.symbols("P0");
            t.find(1).is(1);
            t.type("P");
            t.more().is(1);
            t.check().is(1);
        });
    }

    private static void moreGoesOn() {
        Trial.trial(7, "0 at once where there is no cell", t -> {
            t.find(4).is(1);
            t.more().is(0);
            t.tries().is(0);
        });
        Trial.trial(7, "it stays in the size that was found", t -> {
            t.symbols("a0");
            t.find(4).is(1);
            t.more().is(0);
        });
        Trial.trial(7, "the last cell's next value is the first try", t -> {
            t.symbols("P0 Q0");
            t.find(1).is(1);
            t.more().is(1);
            t.tries().is(1);
            t.value('P', 0, 0).is(0);
            t.value('Q', 0, 0).is(1);
        });
        Trial.trial(7, "where the last cell has had all, it is the turn of the one before", t -> {
            t.symbols("P0 Q0");
            t.given("!P|!Q");
            t.find(1).is(1);
            t.more().is(1);
            t.more().is(1);
            t.tries().is(2);
            t.value('P', 0, 0).is(1);
            t.value('Q', 0, 0).is(0);
            t.more().is(0);
            t.tries().is(1);
        });
        Trial.trial(7, "each structure comes once, up to the last of 16", t -> {
            t.symbols("d0 P2 Q2 R0 S0");
            t.find(1).is(1);
            for (int number = 1; number < 16; number++) {
                t.more().is(1);
                t.value('R', 0, 0).is(number >> 3 & 1);
                t.value('S', 0, 0).is(number >> 2 & 1);
                t.value('P', 0, 0).is(number >> 1 & 1);
                t.value('Q', 0, 0).is(number & 1);
            }
            t.more().is(0);
        });
        Trial.trial(7, "the next one in size 4", t -> {
            t.symbols("a0 b0 c0 d0 P0");
            t.given(DIFFER[3]);
            t.find(4).is(4);
            t.more().is(1);
            t.size().is(4);
            t.value('P', 0, 0).is(1);
            t.value('d', 0, 0).is(3);
            t.more().is(0);
        });
    }

    private static void moreEndsStructure() {
        Trial.trial(7, "0: there is no structure any more", t -> {
            t.symbols("P0");
            t.given("P");
            t.find(1).is(1);
            t.more().is(0);
            t.size().is(0);
            t.value('P', 0, 0).isBad();
            t.check("P").isNo();
            t.clauses().is(1);
        });
        Trial.trial(7, "OUT: there is no structure any more", t -> {
            t.symbols(WIDE);
            t.given(SLOW);
            t.find(4).is(2);
            t.more().isOut();
            t.size().is(0);
            t.value('a', 0, 0).isBad();
            t.value('P', 0, 0).isBad();
            t.check("Pxx").isNo();
            t.clauses().is(6);
        });
        Trial.trial(7, "behind 0 and OUT, find() finds the first one again", t -> {
            t.symbols(WIDE);
            t.given(SLOW);
            t.find(4).is(2);
            t.more().isOut();
            t.find(4).is(2);
            t.tries().is(2 + 1 + 2 + 16);
            t.value('S', 1, 1).is(0);
        });
    }

    /** How many structures more() tells before the one that makes 3000 tries. */
    private static void goesOn(String sentence, String symbols, String texts, int before, int answer) {
        Trial.trial(7, sentence, t -> {
            t.symbols(symbols);
            t.given(texts);
            t.find(4).is(2);
            for (int i = 0; i < before; i++) {
                t.more().is(1);
            }
            t.more().is(answer);
            t.tries().is(3000);
            t.size().is(answer == 1 ? 2 : 0);
        });
    }

    private static void moreOut() {
        goesOn("the 3000th try finds the next one", "a0 b0 P1 Q2 R1 S2",
                "!=ab !Sbb !Sxy|Sbb !Qyx|Sbb !Rx|Sbb !Qbb|Pb !Sax|Sbb !Sbb|Sbb", 1, 1);
        goesOn("the 3001st would find the next one", "a0 b0 P2 Q1 R2 S2",
                "!=ab !Sbb !Sab|Sbb !Pya|Sbb !Pay !Sya|Sbb !Rxy|Sby !Pax|Qb", 3, -4);
        goesOn("the 3000th is the last that there is", "a0 b0 P1 Q2 R2 S1",
                "!=ab !Sb !Rxy|Sb Qxb|Rya !Px|Sb !Sy|Sb", 3, 0);
        goesOn("the 3001st would be the last that there is", "a0 b0 P1 Q2 R1 S2",
                "!=ab !Sbb !Rb|Sbb !Qyb|Sbb !Syx|Sbb Ra !Px|Sbb", 3, -4);
        goesOn("far more would be needed", WIDE, SLOW, 0, -4);
        Trial.trial(7, "it has 3000 tries beside those of find()", t -> {
            t.symbols("a0 b0 P2 Q1 R2 S2");
            t.given("!=ab Paa|Sxb !Sax|!Qa Rxb|!Sxa !Rax|!Sax !Sbb");
            t.find(4).is(2);
            t.tries().is(3000);
            t.more().is(1);
        });
    }

    private static void sizes() {
        Trial.trial(8, "0 before", t -> t.size().is(0));
        for (int size = 1; size <= 4; size++) {
            int least = size;
            Trial.trial(8, "size " + size, t -> {
                t.symbols(FOUR);
                t.given(DIFFER[least - 1]);
                t.find(4).is(least);
                t.size().is(least);
            });
        }
        Trial.trial(8, "0 behind a find() that was 0", t -> {
            t.stand();
            t.find(1).is(0);
            t.size().is(0);
        });
        Trial.trial(8, "0 behind a find() that was OUT", t -> {
            t.symbols(OUT_SYMBOLS);
            t.find(1).is(1);
            t.given(OUT_CLAUSES);
            t.find(4).isOut();
            t.size().is(0);
        });
        Trial.trial(8, "0 behind a more() that was 0", t -> {
            t.find(1).is(1);
            t.more().is(0);
            t.size().is(0);
        });
        Trial.trial(8, "0 behind a more() that was OUT", t -> {
            t.symbols(WIDE);
            t.given(SLOW);
            t.find(4).is(2);
            t.more().isOut();
            t.size().is(0);
        });
        Trial.trial(8, "0 behind a symbol", t -> {
            t.find(1).is(1);
            t.symbol('a', -1).is(true);
            t.size().is(0);
        });
        Trial.trial(8, "as before behind calls that are refused, and behind clauses", t -> {
            t.stand();
            t.find(0).isBad();
            t.find(5).isBad();
            t.size().is(2);
            t.symbol('a', 3).is(false);
            t.size().is(2);
            t.clause().is(2);
            t.size().is(2);
            t.more().isNo();
            t.size().is(2);
            t.drop().is(1);
            t.drop().is(0);
            t.drop().isNo();
            t.size().is(2);
        });
        Trial.trial(8, "asking changes nothing", t -> {
            String before = t.stand();
            t.size().is(2);
            t.stillStands(before);
        });
    }

    private static void triesCounted() {
        Trial.trial(10, "0 before", t -> t.tries().is(0));
        Trial.trial(10, "0 where there is no cell", t -> {
            t.symbols("P0");
            t.find(1).is(1);
            t.tries().is(1);
            t.symbol('P', -1).is(true);
            t.find(4).is(1);
            t.tries().is(0);
        });
        Trial.trial(10, "one cell, one try", t -> {
            t.symbols("a2");
            t.find(4).is(1);
            t.tries().is(1);
        });
        Trial.trial(10, "the latest one's alone: find() behind find()", t -> {
            t.symbols("P0 Q0");
            t.find(1).is(1);
            t.find(1).is(1);
            t.tries().is(2);
        });
        Trial.trial(10, "the latest one's alone: more() behind find()", t -> {
            t.symbols("P0 Q0");
            t.find(1).is(1);
            t.more().is(1);
            t.tries().is(1);
            t.more().is(1);
            t.tries().is(2);
            t.more().is(1);
            t.tries().is(1);
            t.more().is(0);
            t.tries().is(0);
        });
        Trial.trial(10, "3000 for a find() that is OUT", t -> {
            t.symbols(OUT_SYMBOLS);
            t.given(OUT_CLAUSES);
            t.find(4).isOut();
            t.tries().is(3000);
        });
        Trial.trial(10, "3000 for a more() that is OUT", t -> {
            t.symbols(WIDE);
            t.given(SLOW);
            t.find(4).is(2);
            t.more().isOut();
            t.tries().is(3000);
        });
        Trial.trial(10, "3000 for the latest OUT, whatever came before", t -> {
            t.symbols(OUT_SYMBOLS);
            t.given(OUT_CLAUSES);
            t.find(4).isOut();
            t.find(4).isOut();
            t.tries().is(3000);
        });
        Trial.trial(10, "a find() that is 0 made its tries too", t -> {
            t.symbols("P0");
            t.given("P !P");
            t.find(3).is(0);
            t.tries().is(6);
        });
        Trial.trial(10, "a find() that is BAD made none", t -> {
            t.stand();
            t.tries().is(7);
            t.find(0).isBad();
            t.tries().is(0);
        });
        Trial.trial(10, "a more() that is NO made none", t -> {
            t.stand();
            t.clause().is(2);
            t.tries().is(7);
            t.more().isNo();
            t.tries().is(0);
        });
        Trial.trial(10, "other calls leave it", t -> {
            t.stand();
            t.check().is(0);
            t.clause("=xx").is(2);
            t.clause("=x").isWrongAt(2);
            t.drop().is(1);
            t.value('a', 0, 0).is(0);
            t.value('e', 0, 0).isBad();
            t.caseOf(3).isBad();
            t.symbol('a', 3).is(false);
            t.tries().is(7);
            t.symbol('a', 2).is(true);
            t.tries().is(7);
        });
        Trial.trial(10, "asking changes nothing", t -> {
            String before = t.stand();
            t.tries().is(7);
            t.stillStands(before);
        });
    }
}
